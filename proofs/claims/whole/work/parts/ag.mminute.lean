/-! ===== the model runs a minute ===== -/
def rkF (h g : ah_T) : Prop := (∀ j, ah_i g 109 j = ah_i h 109 j ∧ ah_i g 110 j = ah_i h 110 j ∧ ah_i g 111 j = ah_i h 111 j) ∧ ah_i g 82 47 = ah_i h 82 47 ∧ ah_i g 82 48 = ah_i h 82 48
def mSt (A : Nat → Nat) (N : Nd) (h : ah_T) (S : Ns) (g : ah_T) : Prop := ngF h g ∧ mBa A N g ∧ mNS N S g ∧ rkF h g
section MM
variable {A : Nat → Nat} {N : Nd} {h g h1 : ah_T} {S : Ns}
theorem rkF_s {a j : Nat} {x : Int32} (o : a = 102 ∨ a = 103 ∨ a = 104 ∨ a = 105 ∨ a = 106) (r : rkF h g) : rkF h (ah_si g a j x) := ⟨fun i => by rw [ah_i_sn (by omega), ah_i_sn (by omega), ah_i_sn (by omega)]; exact r.1 i, by rw [ah_i_sn (by omega)]; exact r.2.1, by rw [ah_i_sn (by omega)]; exact r.2.2⟩
theorem rkF_k (f : knF g h1) (r : rkF h g) : rkF h h1 := ⟨fun i => by rw [(f.2.2.1 109 (by decide) (by decide) (by decide) (by decide) (by decide)).1, (f.2.2.1 110 (by decide) (by decide) (by decide) (by decide) (by decide)).1, (f.2.2.1 111 (by decide) (by decide) (by decide) (by decide) (by decide)).1]; exact r.1 i, by rw [f.2.2.2 47 (by decide) (by decide) (by decide) (by decide) (by decide)]; exact r.2.1, by rw [f.2.2.2 48 (by decide) (by decide) (by decide) (by decide) (by decide)]; exact r.2.2⟩
theorem rkF_r : rkF h h := ⟨fun _ => ⟨rfl, rfl, rfl⟩, rfl, rfl⟩
theorem mBa_fr (e : ∀ a, (a = 84 ∨ a = 95 ∨ a = 96 ∨ a = 97 ∨ a = 99 ∨ a = 100 ∨ a = 101 ∨ a = 107 ∨ a = 108) → ∀ j, ah_i h1 a j = ah_i g a j) (e2 : ∀ j, j ≠ 47 → j ≠ 48 → ah_i h1 82 j = ah_i g 82 j) (b : mBa A N g) : mBa A N h1 := by
  obtain ⟨b1, b2, b3, b4, b5⟩ := b
  refine ⟨mLw_fr (e 84 (by omega)) b1, ⟨?_, ?_⟩, mND_fr (fun c hc i => e c (by omega) i) (fun i hi => e2 i (by omega) (by omega)) b3, mSw_fr (e 84 (by omega)) b4, b5⟩
  · unfold kvO
    rw [e2 29 (by decide) (by decide), e2 1 (by decide) (by decide)]
    exact b2.1
  intro q
  rw [e2 29 (by decide) (by decide), e2 1 (by decide) (by decide)] at q
  obtain ⟨k1, k2, k3⟩ := b2.2 q
  refine ⟨fun l k o' ne la mi z1 z2 z3 z4 z5 z6 => ?_, fun l k mi z1 z2 z3 => ?_, fun l k mi z1 z2 z3 => ?_⟩
  · rw [e 95 (by omega)]; exact k1 l k o' ne la mi z1 z2 z3 z4 z5 z6
  · rw [e 96 (by omega)]; exact k2 l k mi z1 z2 z3
  · rw [e 97 (by omega)]; exact k3 l k mi z1 z2 z3
theorem mSt_s {a j : Nat} {x : Int32} {S' : Ns} (o : a = 102 ∨ a = 103 ∨ a = 104 ∨ a = 105 ∨ a = 106) (f : ngF h g) (b : mBa A N g) (r : rkF h g) : ngF h (ah_si g a j x) ∧ mBa A N (ah_si g a j x) ∧ rkF h (ah_si g a j x) :=
  ⟨ngF_s (by unfold ngC; omega) f, mBa_s (by unfold ngC; omega) b, rkF_s o r⟩
theorem mSt_sw0 (s : mSt A N h S g) {l m on : Nat} (hl : l < N.n) (ho : on ≠ 1) : mSt A N h (swS S l on m) (ah_si (ah_si g 104 l (-1)) 105 l (bI false)) := by
  obtain ⟨f, b, n, r⟩ := s
  obtain ⟨f1, b1, r1⟩ := mSt_s (S' := S) (a := 104) (j := l) (x := -1) (by omega) f b r
  obtain ⟨f2, b2, r2⟩ := mSt_s (S' := S) (a := 105) (j := l) (x := bI false) (by omega) f1 b1 r1
  obtain ⟨i1, i2, i3, i4⟩ := n.2 l hl
  obtain ⟨u1, u2, u3⟩ := n.1 l hl
  have a1 : (swS S l on m).bu l = false := (if_pos rfl).trans (by rw [decide_eq_false ho, Bool.false_and])
  have a2 : (swS S l on m).si l = S.si l := if_neg (fun y => ho y.2)
  have a3 : (swS S l on m).ou l = 0 := if_pos rfl
  refine ⟨f2, b2, mNS_up hl n (fun j hj => ?_) (fun j hj => ⟨if_neg hj, if_neg (fun y => hj y.1), if_neg hj, rfl⟩) ⟨by rw [a2]; exact u1, by rw [a3]; omega, u3⟩ ⟨?_, ?_, ?_, ?_⟩, r2⟩
  · rw [ah_i_sn (by omega), ah_i_sn (by omega), ah_i_sn (by omega), ah_i_sn (by omega), ah_i_sn (by omega), ah_i_sn (by omega), ah_i_sn (by omega), ah_i_sn (by omega)]
    exact ⟨rfl, rfl, rfl, rfl⟩
  · rw [ah_i_ss, a1]
  · rw [ah_i_sn (by omega), ah_i_sn (by omega), a2]; exact i2
  · rw [ah_i_sn (by omega), ah_i_ss, a3]; rfl
  · rw [ah_i_sn (by omega), ah_i_sn (by omega)]; exact i4
theorem mSt_up {S' : Ns} (s : mSt A N h S g) {l m : Nat} (hl : l < N.n) (hm : m < 120) (e2 : ∀ j, j ≠ l → S'.bu j = S.bu j ∧ S'.si j = S.si j ∧ S'.ou j = S.ou j ∧ S'.oi j = S.oi j) (a1 : S'.bu l = decide (0 < S.oi l)) (a2 : S'.si l = m) (a3 : S'.ou l = 0) (a4 : S'.oi l = S.oi l) : mSt A N h S' (ah_si (ah_si (ah_si g 105 l (bI (decide (0 < S.oi l)))) 103 l (nI m)) 104 l (-1)) := by
  obtain ⟨f, b, n, r⟩ := s
  obtain ⟨f1, b1, r1⟩ := mSt_s (S' := S) (a := 105) (j := l) (x := bI (decide (0 < S.oi l))) (by omega) f b r
  obtain ⟨f2, b2, r2⟩ := mSt_s (S' := S) (a := 103) (j := l) (x := nI m) (by omega) f1 b1 r1
  obtain ⟨f3, b3, r3⟩ := mSt_s (S' := S) (a := 104) (j := l) (x := -1) (by omega) f2 b2 r2
  obtain ⟨i1, i2, i3, i4⟩ := n.2 l hl
  obtain ⟨u1, u2, u3⟩ := n.1 l hl
  refine ⟨f3, b3, mNS_up hl n (fun j hj => ?_) e2 ⟨by rw [a2]; exact hm, by rw [a3]; omega, by rw [a4]; exact u3⟩ ⟨?_, ?_, ?_, ?_⟩, r3⟩
  · rw [ah_i_sn (by omega), ah_i_sn (by omega), ah_i_sn (by omega), ah_i_sn (by omega), ah_i_sn (by omega), ah_i_sn (by omega), ah_i_sn (by omega), ah_i_sn (by omega), ah_i_sn (by omega), ah_i_sn (by omega), ah_i_sn (by omega), ah_i_sn (by omega)]
    exact ⟨rfl, rfl, rfl, rfl⟩
  · rw [ah_i_sn (by omega), ah_i_sn (by omega), ah_i_ss, a1]
  · rw [ah_i_sn (by omega), ah_i_ss, a2]
  · rw [ah_i_ss, a3]; rfl
  · rw [ah_i_sn (by omega), ah_i_sn (by omega), ah_i_sn (by omega), a4]; exact i4
/-- the switches of a minute -/
theorem m_min2 {Q : Option Value → ah_T → Prop} {m : Nat} (hm : m < 120) (nx : ∀ g, mSt A N h (npr A S m (A 247)) g → Wp mX12_minuteOf Q 0 0 91 [some (.ref 82), some (.int (nI m)), some (.int 0), none] [] g) : ∀ (q k : Nat) (g : ah_T), k + q = A 247 → mSt A N h (npr A S m k) g → Wp mX12_minuteOf Q 0 0 2 [some (.ref 82), some (.int (nI m)), some (.int (nI k)), none] [] g := by
  have t247 : Int32.toNatClampNeg 247 = 247 := rfl
  intro q
  induction q with
  | zero =>
    intro k g hk s
    have e9 : k = A 247 := by omega
    subst e9
    have w24 := s.2.1.2.2.2.1.2.1.1
    refine T_X12_minuteOf_2 s.1.1 _ _ ?_
    rw [t247, s.2.1.2.2.2.1.1]
    (first | refine ⟨fun _ => ?_, fun n_ => absurd (show nI (A 247) ≤ nI (A 247) from nI_le (by omega) (by omega)) n_⟩ | refine ⟨fun n_ => absurd (show nI (A 247) ≤ nI (A 247) from nI_le (by omega) (by omega)) n_, fun _ => ?_⟩ | refine ⟨fun y_ => absurd y_ (show nI (A 247) ≤ nI (A 247) from nI_le (by omega) (by omega)), fun _ => ?_⟩ | refine ⟨fun _ => ?_, fun y_ => absurd y_ (show nI (A 247) ≤ nI (A 247) from nI_le (by omega) (by omega))⟩)
    exact nx g s
  | succ q ih =>
    intro k g hk s
    have s' := s
    obtain ⟨f, b, n, r⟩ := s'
    obtain ⟨b1, b2, b3, ⟨w1, w2, w3, w4, w5, w6, w7, w8⟩, b5⟩ := b
    have w24 := w2.1
    have w10 := b3.1.1
    obtain ⟨v1, v2, v3⟩ := w2.2 k (by omega)
    have y1 := w3 (3 * k) (by omega)
    have y2 := w3 (3 * k + 1) (by omega)
    have y3 := w3 (3 * k + 2) (by omega)
    rw [show 90 + (3 * k + 1) = 91 + 3 * k by omega] at y2
    rw [show 90 + (3 * k + 2) = 92 + 3 * k by omega] at y3
    have c0 : (90 : Int32) + 3 * nI k = nI (90 + 3 * k) := by rw [n_90, n_3, nI_mul, nI_add]
    have c1 : nI (90 + 3 * k) + 1 = nI (91 + 3 * k) := (nI_add _ 1).trans (congrArg nI (by omega))
    have c2 : nI (90 + 3 * k) + 2 = nI (92 + 3 * k) := (nI_add _ 2).trans (congrArg nI (by omega))
    have v5 : ∀ j, j < 5860 → vp_in (nI j) 5860 := fun j hj => (vp_nI (by omega)).mpr hj
    refine T_X12_minuteOf_2 f.1 _ _ ?_
    rw [t247, w1]
    (first | refine ⟨fun _ => ?_, fun n_ => absurd (show ¬ nI (A 247) ≤ nI k from nI_ge (by omega) (by omega)) n_⟩ | refine ⟨fun n_ => absurd (show ¬ nI (A 247) ≤ nI k from nI_ge (by omega) (by omega)) n_, fun _ => ?_⟩ | refine ⟨fun y_ => absurd y_ (show ¬ nI (A 247) ≤ nI k from nI_ge (by omega) (by omega)), fun _ => ?_⟩ | refine ⟨fun _ => ?_, fun y_ => absurd y_ (show ¬ nI (A 247) ≤ nI k from nI_ge (by omega) (by omega))⟩)
    rw [c0, c1, c2, nI_clamp (show 91 + 3 * k < 2 ^ 31 by omega), nI_clamp (show 90 + 3 * k < 2 ^ 31 by omega), nI_clamp (show 92 + 3 * k < 2 ^ 31 by omega), y2, y1, n84 f.1]
    have nx83 : ∀ g', mSt A N h (npr A S m (k + 1)) g' → Wp mX12_minuteOf Q 0 0 83 [some (.ref 82), some (.int (nI m)), some (.int (nI k)), none] [] g' := fun g' s' => T_X12_minuteOf_83 s'.1.1 _ _ (by rw [nI_1]; exact ih (k + 1) g' (by omega) s')
    refine ⟨v5 _ (by omega), ?_⟩
    by_cases z : A (91 + 3 * k) = m
    · have en : npr A S m (k + 1) = swS (npr A S m k) (A (90 + 3 * k)) (A (92 + 3 * k)) m := if_pos z
      rw [en] at nx83
      generalize npr A S m k = S0 at s n nx83
      obtain ⟨l, el⟩ : ∃ l, l = A (90 + 3 * k) := ⟨_, rfl⟩
      rw [← el] at nx83 v1 y1 ⊢
      have hl : l < N.n := by omega
      have vl : vp_in (nI l) 10 := (vp_nI (by omega)).mpr (by omega)
      rw [z]
      (first | refine ⟨fun _ => ?_, fun n_ => absurd (show nI m = nI m from rfl) n_⟩ | refine ⟨fun n_ => absurd (show nI m = nI m from rfl) n_, fun _ => ?_⟩ | refine ⟨fun y_ => absurd y_ (show nI m = nI m from rfl), fun _ => ?_⟩ | refine ⟨fun _ => ?_, fun y_ => absurd y_ (show nI m = nI m from rfl)⟩)
      rw [sh_n f.1 104 10 (by decide) (by decide) rfl, nI_clamp (show l < 2 ^ 31 by omega)]
      refine ⟨v5 _ (by omega), vl, ?_⟩
      intro h6 q6
      have s6 : Sh h6 := by rw [q6]; exact sh_si f.1
      have z6 : ∀ j, ah_i h6 84 j = ah_i g 84 j := fun j => by rw [q6]; exact ah_i_sn (by omega)
      rw [z6, y1, n84 s6, sh_n s6 105 10 (by decide) (by decide) rfl, nI_clamp (show l < 2 ^ 31 by omega), nar0']
      refine ⟨v5 _ (by omega), vl, ?_⟩
      intro h11 q11
      have s11 : Sh h11 := by rw [q11]; exact sh_si s6
      have z11 : ∀ j, ah_i h11 84 j = ah_i g 84 j := fun j => by rw [q11, ah_i_sn (by omega)]; exact z6 j
      rw [z11, z11, y3, y1, n84 s11]
      refine ⟨v5 _ (by omega), ?_⟩
      by_cases c : A (92 + 3 * k) = 1
      · rw [c] at nx83 ⊢
        (first | refine ⟨fun _ => ?_, fun n_ => absurd (show nI 1 = 1 from rfl) n_⟩ | refine ⟨fun n_ => absurd (show nI 1 = 1 from rfl) n_, fun _ => ?_⟩ | refine ⟨fun y_ => absurd y_ (show nI 1 = 1 from rfl), fun _ => ?_⟩ | refine ⟨fun _ => ?_, fun y_ => absurd y_ (show nI 1 = 1 from rfl)⟩)
        obtain ⟨u1, u2, u3⟩ := n.1 l hl
        have o11 : ah_i h11 102 l = nI (S0.oi l) := by rw [q11, ah_i_sn (by omega), q6, ah_i_sn (by omega)]; exact (n.2 l hl).2.2.2
        refine ⟨v5 _ (by omega), m_burns0 s11 rfl (by omega) o11 u3 ⟨rfl, sh_si (sh_si (sh_si s11)), nx83 _ ?_⟩⟩
        have s0 := mSt_sw0 s (m := m) (on := 0) hl (by decide)
        rw [← q6, ← q11] at s0
        refine mSt_up s0 hl hm (fun j hj => ?_) ?_ (if_pos ⟨rfl, rfl⟩) (if_pos rfl) rfl
        · exact ⟨(if_neg hj).trans (if_neg hj).symm, (if_neg (fun y => hj y.1)).trans (if_neg (fun y => hj y.1)).symm, (if_neg hj).trans (if_neg hj).symm, rfl⟩
        · exact (if_pos rfl).trans (by rw [decide_eq_true rfl, Bool.true_and]; rfl)
      · (first | refine ⟨fun _ => ?_, fun n_ => absurd (show ¬ nI (A (92 + 3 * k)) = 1 from fun y => c ((nI_eq (b := 1) (by omega) (by omega)).mp y)) n_⟩ | refine ⟨fun n_ => absurd (show ¬ nI (A (92 + 3 * k)) = 1 from fun y => c ((nI_eq (b := 1) (by omega) (by omega)).mp y)) n_, fun _ => ?_⟩ | refine ⟨fun y_ => absurd y_ (show ¬ nI (A (92 + 3 * k)) = 1 from fun y => c ((nI_eq (b := 1) (by omega) (by omega)).mp y)), fun _ => ?_⟩ | refine ⟨fun _ => ?_, fun y_ => absurd y_ (show ¬ nI (A (92 + 3 * k)) = 1 from fun y => c ((nI_eq (b := 1) (by omega) (by omega)).mp y))⟩)
        have s0 := mSt_sw0 s (m := m) hl c
        rw [← q6, ← q11] at s0
        exact nx83 _ s0
    · have en : npr A S m (k + 1) = npr A S m k := if_neg z
      rw [en] at nx83
      (first | refine ⟨fun _ => ?_, fun n_ => absurd (show ¬ nI (A (91 + 3 * k)) = nI m from fun y => z ((nI_eq (by omega) (by omega)).mp y)) n_⟩ | refine ⟨fun n_ => absurd (show ¬ nI (A (91 + 3 * k)) = nI m from fun y => z ((nI_eq (by omega) (by omega)).mp y)) n_, fun _ => ?_⟩ | refine ⟨fun y_ => absurd y_ (show ¬ nI (A (91 + 3 * k)) = nI m from fun y => z ((nI_eq (by omega) (by omega)).mp y)), fun _ => ?_⟩ | refine ⟨fun _ => ?_, fun y_ => absurd y_ (show ¬ nI (A (91 + 3 * k)) = nI m from fun y => z ((nI_eq (by omega) (by omega)).mp y))⟩)
      exact nx83 g s
theorem wkS_n {m x j : Nat} (hj : j ≠ x) : (wkS A S m (x + 1)).bu j = (wkS A S m x).bu j ∧ (wkS A S m (x + 1)).si j = (wkS A S m x).si j ∧ (wkS A S m (x + 1)).ou j = (wkS A S m x).ou j ∧ (wkS A S m (x + 1)).oi j = (wkS A S m x).oi j := by
  by_cases c : j < x ∧ wkB A S m j = true
  · have c' : j < x + 1 ∧ wkB A S m j = true := ⟨by omega, c.2⟩
    exact ⟨(if_pos c').trans (if_pos c).symm, (if_pos c').trans (if_pos c).symm, (if_pos c').trans (if_pos c).symm, rfl⟩
  · have c' : ¬ (j < x + 1 ∧ wkB A S m j = true) := fun y => c ⟨by omega, y.2⟩
    exact ⟨(if_neg c').trans (if_neg c).symm, (if_neg c').trans (if_neg c).symm, (if_neg c').trans (if_neg c).symm, rfl⟩
theorem wkS_o {m x : Nat} : (wkS A S m x).bu x = S.bu x ∧ (wkS A S m x).si x = S.si x ∧ (wkS A S m x).ou x = S.ou x := by
  have c : ¬ (x < x ∧ wkB A S m x = true) := fun y => by omega
  exact ⟨if_neg c, if_neg c, if_neg c⟩
theorem wkS_f {m x : Nat} (w : wkB A S m x = false) (j : Nat) : (wkS A S m (x + 1)).bu j = (wkS A S m x).bu j ∧ (wkS A S m (x + 1)).si j = (wkS A S m x).si j ∧ (wkS A S m (x + 1)).ou j = (wkS A S m x).ou j ∧ (wkS A S m (x + 1)).oi j = (wkS A S m x).oi j := by
  by_cases z : j = x
  · subst z
    have c : ¬ (j < j ∧ wkB A S m j = true) := fun y => by omega
    have c' : ¬ (j < j + 1 ∧ wkB A S m j = true) := fun y => by rw [w] at y; exact absurd y.2 (by decide)
    exact ⟨(if_neg c').trans (if_neg c).symm, (if_neg c').trans (if_neg c).symm, (if_neg c').trans (if_neg c).symm, rfl⟩
  · exact wkS_n z
theorem mSt_ex {S' : Ns} (s : mSt A N h S g) (e2 : ∀ j, S'.bu j = S.bu j ∧ S'.si j = S.si j ∧ S'.ou j = S.ou j ∧ S'.oi j = S.oi j) : mSt A N h S' g := ⟨s.1, s.2.1, mNS_ex s.2.2.1 (fun j _ => e2 j), s.2.2.2⟩
/-- waiting ones -/
theorem m_min91 {Q : Option Value → ah_T → Prop} {m : Nat} (hm : m < 120) (nx : ∀ g, mSt A N h (wkS A S m N.n) g → Wp mX12_minuteOf Q 0 0 142 [some (.ref 82), some (.int (nI m)), some (.int 0), none] [] g) : ∀ (q x : Nat) (g : ah_T), x + q = N.n → mSt A N h (wkS A S m x) g → Wp mX12_minuteOf Q 0 0 91 [some (.ref 82), some (.int (nI m)), some (.int (nI x)), none] [] g := by
  have t243 : Int32.toNatClampNeg 243 = 243 := rfl
  intro q
  induction q with
  | zero =>
    intro x g hx s
    have e9 : x = N.n := by omega
    subst e9
    have w10 := s.2.1.2.2.1.1.1
    refine T_X12_minuteOf_91 s.1.1 _ _ ?_
    rw [s.2.1.2.2.1.2.1]
    (first | refine ⟨fun _ => ?_, fun n_ => absurd (show nI N.n ≤ nI N.n from nI_le (by omega) (by omega)) n_⟩ | refine ⟨fun n_ => absurd (show nI N.n ≤ nI N.n from nI_le (by omega) (by omega)) n_, fun _ => ?_⟩ | refine ⟨fun y_ => absurd y_ (show nI N.n ≤ nI N.n from nI_le (by omega) (by omega)), fun _ => ?_⟩ | refine ⟨fun _ => ?_, fun y_ => absurd y_ (show nI N.n ≤ nI N.n from nI_le (by omega) (by omega))⟩)
    exact nx g s
  | succ q ih =>
    intro x g hx s
    have s' := s
    obtain ⟨f, b, n, r⟩ := s'
    obtain ⟨b1, b2, b3, ⟨w1, w2, w3, w4, w5, w6, w7, w8⟩, b5⟩ := b
    have w10 := b3.1.1
    have hx2 : x < N.n := by omega
    obtain ⟨i1, i2, i3, i4⟩ := n.2 x hx2
    obtain ⟨u1, u2, u3⟩ := n.1 x hx2
    obtain ⟨o1, o2, o3⟩ := wkS_o (A := A) (S := S) (m := m) (x := x)
    rw [o3] at i3 u2
    have vx : vp_in (nI x) 10 := (vp_nI (by omega)).mpr (by omega)
    have nx134 : ∀ g', mSt A N h (wkS A S m (x + 1)) g' → Wp mX12_minuteOf Q 0 0 134 [some (.ref 82), some (.int (nI m)), some (.int (nI x)), none] [] g' := fun g' s' => T_X12_minuteOf_134 s'.1.1 _ _ (by rw [nI_1]; exact ih (x + 1) g' (by omega) s')
    refine T_X12_minuteOf_91 f.1 _ _ ?_
    rw [b3.2.1]
    (first | refine ⟨fun _ => ?_, fun n_ => absurd (show ¬ nI N.n ≤ nI x from nI_ge (by omega) (by omega)) n_⟩ | refine ⟨fun n_ => absurd (show ¬ nI N.n ≤ nI x from nI_ge (by omega) (by omega)) n_, fun _ => ?_⟩ | refine ⟨fun y_ => absurd y_ (show ¬ nI N.n ≤ nI x from nI_ge (by omega) (by omega)), fun _ => ?_⟩ | refine ⟨fun _ => ?_, fun y_ => absurd y_ (show ¬ nI N.n ≤ nI x from nI_ge (by omega) (by omega))⟩)
    rw [t243, nI_clamp (show x < 2 ^ 31 by omega), i3, w4, sh_n f.1 104 10 (by decide) (by decide) rfl]
    refine ⟨vx, ?_⟩
    have same : wkB A S m x = false → mSt A N h (wkS A S m (x + 1)) g := fun w => mSt_ex s (fun j => wkS_f w j)
    by_cases z : S.ou x = 0
    · rw [z]
      (first | refine ⟨fun _ => ?_, fun n_ => absurd (show nO 0 = -1 from rfl) n_⟩ | refine ⟨fun n_ => absurd (show nO 0 = -1 from rfl) n_, fun _ => ?_⟩ | refine ⟨fun y_ => absurd y_ (show nO 0 = -1 from rfl), fun _ => ?_⟩ | refine ⟨fun _ => ?_, fun y_ => absurd y_ (show nO 0 = -1 from rfl)⟩)
      exact nx134 g (same (decide_eq_false (fun y => y.1 z)))
    · obtain ⟨u, eu⟩ : ∃ u, S.ou x = u + 1 := ⟨S.ou x - 1, by omega⟩
      rw [eu, nO_s]
      (first | refine ⟨fun _ => ?_, fun n_ => absurd (nI_m1 (show u < 2 ^ 31 by omega)) n_⟩ | refine ⟨fun n_ => absurd (nI_m1 (show u < 2 ^ 31 by omega)) n_, fun _ => ?_⟩ | refine ⟨fun y_ => absurd y_ (nI_m1 (show u < 2 ^ 31 by omega)), fun _ => ?_⟩ | refine ⟨fun _ => ?_, fun y_ => absurd y_ (nI_m1 (show u < 2 ^ 31 by omega))⟩)
      rw [nI_add, nI_eq (show u + A 243 < 2 ^ 31 by have := w5.2.2.1; omega) (show m < 2 ^ 31 by omega)]
      refine ⟨vx, fun c => nx134 g (same (decide_eq_false (fun y => c (by rw [eu] at y; exact y.2)))), fun c => ?_⟩
      have wt : wkB A S m x = true := decide_eq_true ⟨z, by rw [eu]; exact c⟩
      have c' : x < x + 1 ∧ wkB A S m x = true := ⟨by omega, wt⟩
      refine m_burns0 f.1 rfl (by omega) i4 u3 ⟨rfl, sh_si (sh_si (sh_si f.1)), nx134 _ ?_⟩
      exact mSt_up s hx2 hm (fun j hj => wkS_n hj) (if_pos c') (if_pos c') (if_pos c') rfl
/-- who goes -/
theorem m_min142 {Q : Option Value → ah_T → Prop} {m : Nat} (hm : m < 120) (nx : ∀ g, mSt A N h S g → (∀ l, l < N.n → ah_i g 106 l = bI (S.bu l && drB A N S m l)) → Wp mX12_minuteOf Q 0 0 187 [some (.ref 82), some (.int (nI m)), some (.int 0), none] [] g) : ∀ (q x : Nat) (g : ah_T), x + q = N.n → mSt A N h S g → (∀ l, l < x → ah_i g 106 l = bI (S.bu l && drB A N S m l)) → Wp mX12_minuteOf Q 0 0 142 [some (.ref 82), some (.int (nI m)), some (.int (nI x)), none] [] g := by
  intro q
  induction q with
  | zero =>
    intro x g hx s i6
    have e9 : x = N.n := by omega
    subst e9
    have w10 := s.2.1.2.2.1.1.1
    refine T_X12_minuteOf_142 s.1.1 _ _ ?_
    rw [s.2.1.2.2.1.2.1]
    (first | refine ⟨fun _ => ?_, fun n_ => absurd (show nI N.n ≤ nI N.n from nI_le (by omega) (by omega)) n_⟩ | refine ⟨fun n_ => absurd (show nI N.n ≤ nI N.n from nI_le (by omega) (by omega)) n_, fun _ => ?_⟩ | refine ⟨fun y_ => absurd y_ (show nI N.n ≤ nI N.n from nI_le (by omega) (by omega)), fun _ => ?_⟩ | refine ⟨fun _ => ?_, fun y_ => absurd y_ (show nI N.n ≤ nI N.n from nI_le (by omega) (by omega))⟩)
    exact nx g s i6
  | succ q ih =>
    intro x g hx s i6
    have s' := s
    obtain ⟨f, b, n, r⟩ := s'
    have b3 := b.2.2.1
    have w10 := b3.1.1
    have hx2 : x < N.n := by omega
    obtain ⟨i1, i2, i3, i4⟩ := n.2 x hx2
    have vx : vp_in (nI x) 10 := (vp_nI (by omega)).mpr (by omega)
    have st : ∀ g', mSt A N h S g' → (∀ l, l < x → ah_i g' 106 l = bI (S.bu l && drB A N S m l)) → ∀ v, v = (S.bu x && drB A N S m x) → Wp mX12_minuteOf Q 0 0 142 [some (.ref 82), some (.int (nI m)), some (.int (nI (x + 1))), none] [] (ah_si g' 106 x (bI v)) := by
      intro g' s' j6 v ev
      obtain ⟨f', b', n', r'⟩ := s'
      obtain ⟨f1, b1, r1⟩ := mSt_s (S' := S) (a := 106) (j := x) (x := bI v) (by omega) f' b' r'
      refine ih (x + 1) _ (by omega) ⟨f1, b1, mNS_fr (fun a ha j => ah_i_sn (by omega)) n', r1⟩ (fun l hl => ?_)
      by_cases z : l = x
      · subst z
        rw [ah_i_ss, ev]
      · rw [ah_i_sn (by omega)]
        exact j6 l (by omega)
    refine T_X12_minuteOf_142 f.1 _ _ ?_
    rw [b3.2.1]
    (first | refine ⟨fun _ => ?_, fun n_ => absurd (show ¬ nI N.n ≤ nI x from nI_ge (by omega) (by omega)) n_⟩ | refine ⟨fun n_ => absurd (show ¬ nI N.n ≤ nI x from nI_ge (by omega) (by omega)) n_, fun _ => ?_⟩ | refine ⟨fun y_ => absurd y_ (show ¬ nI N.n ≤ nI x from nI_ge (by omega) (by omega)), fun _ => ?_⟩ | refine ⟨fun _ => ?_, fun y_ => absurd y_ (show ¬ nI N.n ≤ nI x from nI_ge (by omega) (by omega))⟩)
    rw [nI_1, nI_clamp (show x < 2 ^ 31 by omega), i1, sh_n f.1 105 10 (by decide) (by decide) rfl, sh_n f.1 106 10 (by decide) (by decide) rfl, nar0', nar1', bI_0]
    refine ⟨vx, fun z => ⟨vx, ?_⟩, fun z => ?_⟩
    · rintro h32 rfl
      exact st g s i6 false (by rw [z, Bool.false_and])
    · have zt : S.bu x = true := by cases e : S.bu x; exact absurd e z; rfl
      refine m_isDriven f.1 (mBa_A b n) rfl rfl hx2 hm (fun g1 f1 a1 => ⟨_, rfl, f1.1, ?_⟩)
      rw [bI_0, sh_n f1.1 106 10 (by decide) (by decide) rfl]
      have e1 : ∀ a, a ≠ 82 → a ≠ 93 → a ≠ 95 → a ≠ 96 → a ≠ 97 → ∀ j, ah_i g1 a j = ah_i g a j := fun a n1 n2 n3 n4 n5 => (f1.2.2.1 a n1 n2 n3 n4 n5).1
      have s1 : mSt A N h S g1 := ⟨ngF_t f (ngF_k f1), ⟨a1.1, a1.2.1, a1.2.2.1, mSw_fr (e1 84 (by decide) (by decide) (by decide) (by decide) (by decide)) b.2.2.2.1, b.2.2.2.2⟩, a1.2.2.2, rkF_k f1 r⟩
      have j6 : ∀ l, l < x → ah_i g1 106 l = bI (S.bu l && drB A N S m l) := fun l hl => by rw [e1 106 (by decide) (by decide) (by decide) (by decide) (by decide)]; exact i6 l hl
      refine ⟨fun y => ⟨vx, ?_⟩, fun y => ⟨vx, ?_⟩⟩
      · rintro h40 rfl
        exact st g1 s1 j6 false (by rw [y, Bool.and_false])
      · rintro h44 rfl
        exact st g1 s1 j6 true (by rw [zt]; cases e : drB A N S m x; exact absurd e y; rfl)
end MM
