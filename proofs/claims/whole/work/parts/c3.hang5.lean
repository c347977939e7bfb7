/-! ===== to hang: the model ===== -/
def mhO (A : Nat → Nat) (s k : Nat) (h : ah_T) : Prop := mLw A h ∧ mKn A h ∧ (∀ x y, x < 12 → y < 12 → dst (Ew A (shS A)) x y (ah_i h 99 (12 * x + y))) ∧ (∀ i, i < hN s → ah_i h 117 i = nI (nth (sS s) i)) ∧ ∀ i, i < hN k → ah_i h 120 i = nI (nth (sS k) i)
def mgF (h g : ah_T) : Prop := Sh g ∧ ah_x g = ah_x h ∧ (∀ a, a ≠ 82 → a ≠ 93 → a ≠ 95 → a ≠ 96 → a ≠ 97 → a ≠ 118 → a ≠ 119 → eqc h g a) ∧ ∀ j, j ≠ 20 → j ≠ 21 → j ≠ 22 → j ≠ 23 → j ≠ 29 → ah_i g 82 j = ah_i h 82 j
section HM
variable {A : Nat → Nat} {h g u : ah_T} {s k w m r i j a b n c : Nat}
theorem mgF_r (hs : Sh h) : mgF h h := ⟨hs, rfl, fun _ _ _ _ _ _ _ _ => eqc_rfl, fun _ _ _ _ _ _ => rfl⟩
theorem mgF_t {h1 : ah_T} (p : mgF h g) (q : mgF g h1) : mgF h h1 := ⟨q.1, by rw [q.2.1, p.2.1], fun a n1 n2 n3 n4 n5 n6 n7 => eqc_trans (p.2.2.1 a n1 n2 n3 n4 n5 n6 n7) (q.2.2.1 a n1 n2 n3 n4 n5 n6 n7), fun j n1 n2 n3 n4 n5 => by rw [q.2.2.2 j n1 n2 n3 n4 n5, p.2.2.2 j n1 n2 n3 n4 n5]⟩
theorem mgF_k (f : knF h g) : mgF h g := ⟨f.1, f.2.1, fun a n1 n2 n3 n4 n5 _ _ => f.2.2.1 a n1 n2 n3 n4 n5, f.2.2.2⟩
theorem mgF_s {a j : Nat} {x : Int32} (o : a = 118 ∨ a = 119) (p : mgF h g) : mgF h (ah_si g a j x) := ⟨sh_si p.1, by rw [ah_x_si, p.2.1], fun b n1 n2 n3 n4 n5 n6 n7 => eqc_si (p.2.2.1 b n1 n2 n3 n4 n5 n6 n7) (by omega), fun i n1 n2 n3 n4 n5 => by rw [ah_i_sn (by omega)]; exact p.2.2.2 i n1 n2 n3 n4 n5⟩
theorem mhO_k (f : knF h g) (kw : mKw A g) (q : mhO A s k h) : mhO A s k g := by
  obtain ⟨q1, q2, q3, q4, q5⟩ := q
  have e : ∀ a, a ≠ 82 → a ≠ 93 → a ≠ 95 → a ≠ 96 → a ≠ 97 → ∀ j, ah_i g a j = ah_i h a j := fun a n1 n2 n3 n4 n5 => (f.2.2.1 a n1 n2 n3 n4 n5).1
  exact ⟨mLw_fr (e 84 (by decide) (by decide) (by decide) (by decide) (by decide)) q1, ⟨Int.le_of_eq (congrArg Int32.toInt kw.1), fun _ => kw.2⟩, fun x y hx hy => by rw [e 99 (by decide) (by decide) (by decide) (by decide) (by decide)]; exact q3 x y hx hy, fun i hi => by rw [e 117 (by decide) (by decide) (by decide) (by decide) (by decide)]; exact q4 i hi, fun i hi => by rw [e 120 (by decide) (by decide) (by decide) (by decide) (by decide)]; exact q5 i hi⟩
theorem mhO_s {a j : Nat} {x : Int32} (o : a = 118 ∨ a = 119) (q : mhO A s k h) : mhO A s k (ah_si h a j x) := by
  obtain ⟨q1, q2, q3, q4, q5⟩ := q
  exact ⟨mLw_fr (fun j => ah_i_sn (by omega)) q1, mKn_e (fun b hb j => ah_i_sn (by omega)) (ah_i_sn (by omega)) (ah_i_sn (by omega)) q2, fun x y hx hy => by rw [ah_i_sn (by omega)]; exact q3 x y hx hy, fun i hi => by rw [ah_i_sn (by omega)]; exact q4 i hi, fun i hi => by rw [ah_i_sn (by omega)]; exact q5 i hi⟩
theorem m_reached {Q : Option Value → ah_T → Prop} (hs : Sh h) (b : mhO A s k h) {l a kk c m : Nat} {x1 x2 x3 x4 x5 : Int32} (e1 : x1 = nO l) (e2 : x2 = nI a) (e3 : x3 = nI kk) (e4 : x4 = nI c) (e5 : x5 = nI m) (hl : l < 11) (ha : a < 12) (hk : kk < 6) (hc : c < 12) (hm : m < 120)
    (hq : ∀ h', knF h h' → mhO A s k h' → Q (some (.int (bI (reB A l kk m a c)))) h') : Mt mX12_isReached [.ref 82, .int x1, .int x2, .int x3, .int x4, .int x5] h Q := by
  subst e1 e2 e3 e4 e5
  have d7 := b.2.2.1
  obtain ⟨p1, p2, p3⟩ := sgN_d (d7 a c ha hc)
  have c1 : (12 : Int32) * nI a + nI c = nI (12 * a + c) := by rw [n_12, nI_mul, nI_add]
  have v : vp_in (nI (12 * a + c)) 144 := (vp_nI (by omega)).mpr (by omega)
  refine T_X12_isReached hs _ _ _ _ _ ?_
  rw [c1, nI_clamp (show 12 * a + c < 2 ^ 31 by omega), p1, sh_n hs 99 144 (by decide) (by decide) rfl]
  refine ⟨v, fun z => ?_, fun z => ⟨v, ?_⟩⟩
  · have s0 : sgN A a c = 0 := by
      rcases Nat.eq_zero_or_pos (sgN A a c) with w | w
      · exact w
      · rw [show sgN A a c = (sgN A a c - 1) + 1 by omega, nO_s] at z
        exact absurd z (nI_m1 (by omega))
    have := hq h (knF_r hs) b
    unfold reB at this
    rw [decide_eq_false (fun y => y.1 s0)] at this
    exact this
  · have s0 : sgN A a c ≠ 0 := fun w => z (by rw [w]; rfl)
    obtain ⟨t, es⟩ : ∃ t, sgN A a c = t + 1 := ⟨sgN A a c - 1, by omega⟩
    have r9 := rchA_le A l kk m
    refine mt_reach hs b.1 b.2.1 hl hk hm rfl rfl rfl (fun g1 f1 k1 => ⟨_, rfl, f1.1, ?_⟩)
    have q := hq g1 f1 (mhO_k f1 k1 b)
    unfold reB at q
    rw [es, nO_s]
    refine ⟨fun w => ?_, fun w => ?_⟩
    · rw [nI_ltI (by omega) (by omega)] at w
      rw [decide_eq_false (fun y => by have := y.2; omega)] at q
      exact q
    · rw [nI_geI (by omega) (by omega)] at w
      rw [decide_eq_true ⟨s0, by omega⟩] at q
      exact q
theorem m_bitsTo {Q : Option Value → ah_T → Prop} {x0 x2 : Int32} (hs : Sh h) (ha : (a = 117 ∧ n = 6) ∨ (a = 120 ∧ n = 3)) (e0 : x0 = nI s) (e2 : x2 = nI n) (hs12 : s < 4096) (hq : ∀ g, Sh g → ah_x g = ah_x h → (∀ b, b ≠ a → eqc h g b) → (hN s ≤ n → ∀ i, i < hN s → ah_i g a i = nI (nth (sS s) i)) → Q (some (.int (nI (hN s)))) g) : Mt mX12_bitsTo [.int x0, .ref a, .int x2] h Q := by
  subst e0 e2
  have kk : ∀ {u : ah_T}, Sh u → ah_k u a = 14 ∧ ah_n u a = n := fun hs => by
    rcases ha with ⟨rfl, rfl⟩ | ⟨rfl, rfl⟩
    · exact ⟨sh_k hs 117 14 (by decide) rfl, sh_n hs 117 6 (by decide) (by decide) rfl⟩
    · exact ⟨sh_k hs 120 14 (by decide) rfl, sh_n hs 120 3 (by decide) (by decide) rfl⟩
  have e12 := hN_bd (K := 12) (s := s) hs12 (by omega)
  have n6 : n ≤ 6 := by omega
  have lp : ∀ (q c : Nat) (u : ah_T), c + q = 12 → Sh u → ah_x u = ah_x h → (∀ b, b ≠ a → eqc h u b) → (∀ i, i < n → i < cb (sS s) c → ah_i u a i = nI (nth (sS s) i)) → Wp mX12_bitsTo Q 0 0 5 [some (.int (nI s)), some (.ref a), some (.int (nI n)), some (.int (nI (cb (sS s) c))), some (.int (nI c))] [] u := by
    intro q
    induction q with
    | zero =>
      intro c u hc su xu eu ro
      have e9 : c = 12 := by omega
      subst e9
      refine T_X12_bitsTo_5 su _ a _ _ _ (kk su).1 ?_
      (first | refine ⟨fun _ => ?_, fun n_ => absurd (show 12 ≤ nI 12 from nI_le (a := 12) (by omega) (by omega)) n_⟩ | refine ⟨fun n_ => absurd (show 12 ≤ nI 12 from nI_le (a := 12) (by omega) (by omega)) n_, fun _ => ?_⟩ | refine ⟨fun y_ => absurd y_ (show 12 ≤ nI 12 from nI_le (a := 12) (by omega) (by omega)), fun _ => ?_⟩ | refine ⟨fun _ => ?_, fun y_ => absurd y_ (show 12 ≤ nI 12 from nI_le (a := 12) (by omega) (by omega))⟩)
      rw [← e12]
      exact hq u su xu eu (fun le i hi => ro i (by omega) (by rw [← e12]; exact hi))
    | succ q ih =>
      intro c u hc su xu eu ro
      have cl := cb_le (sS s) c
      refine T_X12_bitsTo_5 su _ a _ _ _ (kk su).1 ?_
      (first | refine ⟨fun _ => ?_, fun n_ => absurd (show ¬ 12 ≤ nI c from nI_ge (b := 12) (by omega) (by omega)) n_⟩ | refine ⟨fun n_ => absurd (show ¬ 12 ≤ nI c from nI_ge (b := 12) (by omega) (by omega)) n_, fun _ => ?_⟩ | refine ⟨fun y_ => absurd y_ (show ¬ 12 ≤ nI c from nI_ge (b := 12) (by omega) (by omega)), fun _ => ?_⟩ | refine ⟨fun _ => ?_, fun y_ => absurd y_ (show ¬ 12 ≤ nI c from nI_ge (b := 12) (by omega) (by omega))⟩)
      rw [isIn_bt _ (show c < 32 by omega), nb (by omega), (kk su).2, nI_1, nI_1, nI_clamp (show cb (sS s) c < 2 ^ 31 by omega)]
      refine ⟨fun z => ?_, fun z => ?_⟩
      · have zt : sS s c = true := by cases y : s.testBit c; exact absurd y z; exact y
        have cs := cb_t1 (f := sS s) zt
        rw [← cs]
        refine ⟨fun y => ih (c + 1) u (by omega) su xu eu (fun i h1 h2 => ro i h1 ?_), fun y => ?_⟩
        · rw [nI_leI (by omega) (by omega)] at y
          omega
        · have lt : cb (sS s) c < n := by
            rw [nI_leI (by omega) (by omega)] at y
            omega
          refine ⟨(vp_nI (by omega)).mpr lt, ?_⟩
          rintro h5 rfl
          refine ih (c + 1) _ (by omega) (sh_si su) (by rw [ah_x_si]; exact xu) (fun b n1 => eqc_si (eu b n1) n1) (fun i h1 h2 => ?_)
          by_cases y2 : i = cb (sS s) c
          · rw [y2, ah_i_ss, nth_u (show c < 20 by omega) zt]
          · rw [ah_i_sn (fun t => y2 t.2)]; exact ro i h1 (by omega)
      · have cs := cb_t0 (f := sS s) z
        have g := ih (c + 1) u (by omega) su xu eu (fun i h1 h2 => ro i h1 (by rw [← cs]; exact h2))
        rw [cs] at g
        exact g
  exact T_X12_bitsTo hs _ a _ (kk hs).1 (lp 12 0 h (by omega) hs rfl (fun _ _ => eqc_rfl) (fun i _ h2 => absurd h2 (Nat.not_lt_zero _)))
theorem m_hangs {Q : Option Value → ah_T → Prop} {x1 x2 x3 : Int32} (hs : Sh h) (V : hgV s k w m) (q0 : mhO A s k h) (rk : ∀ i, i < hN s → ah_i h 118 i = nI (hkd s k r i)) (e1 : x1 = nI (hN s)) (e2 : x2 = nI w) (e3 : x3 = nI m) (hq1 : okH A s k w m r → ∀ g, knF h g → mhO A s k g → Q (some (.int 1)) g) (hq2 : ¬ okH A s k w m r → ∀ g, knF h g → mhO A s k g → Q (some (.int 0)) g) : Mt mX12_hangs [.ref 82, .int x1, .int x2, .int x3] h Q := by
  subst e1 e2 e3
  obtain ⟨v1, v2, v3, v4, v5, v6, v7, v8⟩ := V
  have ec := hC_e k
  have n118 : ∀ {u : ah_T}, Sh u → ah_n u 118 = 6 := fun hs => sh_n hs 118 6 (by decide) (by decide) rfl
  have n117 : ∀ {u : ah_T}, Sh u → ah_n u 117 = 6 := fun hs => sh_n hs 117 6 (by decide) (by decide) rfl
  have c12 : ∀ i, i < hN s → nth (sS s) i < 12 := fun i hi => nth_bd (K := 12) v2 hi
  have k6 : ∀ i, hch s k r i ≠ 0 → hkd s k r i < 6 := fun i z => by
    have := hch_lt s k r i
    rw [hkd_y z]
    exact nth_bd (K := 6) v5 (by omega)
  have k100 : ∀ i, (nI (hkd s k r i) = 100 ↔ hch s k r i = 0) := fun i => by
    constructor
    · intro y
      by_cases z : hch s k r i = 0
      · exact z
      · have := k6 i z
        rw [n_100, nI_eq (by omega) (by omega)] at y
        omega
    · intro z
      unfold hkd
      rw [if_pos z]; rfl
  have e0 : ∀ x : Int32, x ||| 0 = x := fun x => b_ext (fun i _ => by rw [b_or, b_0, Bool.or_false])
  have l6 : ∀ (q a : Nat) (u : ah_T) (x4 : Int32), a + q = hN s → knF h u → mhO A s k u → (∀ x, x < 32 → (bt x4 x = true ↔ x < 12 ∧ ∃ a', a' < a ∧ hch s k r a' ≠ 0 ∧ reB A (a' + 1) (hkd s k r a') m (nth (sS s) a') x = true)) → (∀ a' b, a' < a → b < hN s → a' ≠ b → hch s k r a' ≠ 0 → hch s k r b ≠ 0 → shS9 A a' (hkd s k r a') (hkd s k r b) (sgN A (nth (sS s) a') (nth (sS s) b)) 0 m = false) → Wp mX12_hangs Q 0 0 6 [some (.ref 82), some (.int (nI (hN s))), some (.int (nI w)), some (.int (nI m)), some (.int x4), some (.int (nI a)), none] [] u := by
    intro q
    induction q with
    | zero =>
      intro a u x4 ha fu mu lt pc
      have e9 : a = hN s := by omega
      subst e9
      refine T_X12_hangs_6 fu.1 _ _ _ _ _ ?_
      (first | refine ⟨fun _ => ?_, fun n_ => absurd (show nI (hN s) ≤ nI (hN s) from nI_le (Nat.le_refl _) (by omega)) n_⟩ | refine ⟨fun n_ => absurd (show nI (hN s) ≤ nI (hN s) from nI_le (Nat.le_refl _) (by omega)) n_, fun _ => ?_⟩ | refine ⟨fun y_ => absurd y_ (show nI (hN s) ≤ nI (hN s) from nI_le (Nat.le_refl _) (by omega)), fun _ => ?_⟩ | refine ⟨fun _ => ?_, fun y_ => absurd y_ (show nI (hN s) ≤ nI (hN s) from nI_le (Nat.le_refl _) (by omega))⟩)
      refine ⟨fun z => hq2 (fun ok => z ?_) u fu mu, fun z => hq1 ⟨fun a b ha hb => pc a b ha hb, fun x hx wx => ?_⟩ u fu mu⟩
      · rw [and_0]
        intro x hx bx
        rw [nb hx] at bx
        rw [b_not _ hx]
        have x12 : x < 12 := by
          rcases Nat.lt_or_ge x 12 with y | y
          · exact y
          · rw [Nat.testBit_lt_two_pow (Nat.lt_of_lt_of_le (show w < 2 ^ 12 by omega) (Nat.pow_le_pow_right (by decide) y))] at bx
            exact absurd bx (by decide)
        rw [(lt x hx).mpr ⟨x12, ok.2 x x12 bx⟩]; rfl
      · have := and_0.mp z x (by omega) (by rw [nb (by omega)]; exact wx)
        rw [b_not _ (by omega), Bool.not_eq_false'] at this
        exact ((lt x (by omega)).mp this).2
    | succ q ih =>
      intro a u x4 ha fu mu lt pc
      have han : a < hN s := by omega
      have e118 : ∀ {u : ah_T}, knF h u → ∀ i, i < hN s → ah_i u 118 i = nI (hkd s k r i) := fun f i hi => by rw [(f.2.2.1 118 (by decide) (by decide) (by decide) (by decide) (by decide)).1]; exact rk i hi
      refine T_X12_hangs_6 fu.1 _ _ _ _ _ ?_
      (first | refine ⟨fun _ => ?_, fun n_ => absurd (show ¬ nI (hN s) ≤ nI a from nI_ge han (by omega)) n_⟩ | refine ⟨fun n_ => absurd (show ¬ nI (hN s) ≤ nI a from nI_ge han (by omega)) n_, fun _ => ?_⟩ | refine ⟨fun y_ => absurd y_ (show ¬ nI (hN s) ≤ nI a from nI_ge han (by omega)), fun _ => ?_⟩ | refine ⟨fun _ => ?_, fun y_ => absurd y_ (show ¬ nI (hN s) ≤ nI a from nI_ge han (by omega))⟩)
      rw [n118 fu.1, nI_clamp (show a < 2 ^ 31 by omega), e118 fu a han, k100, nI_1]
      have va : vp_in (nI a) 6 := (vp_nI (by omega)).mpr (by omega)
      refine ⟨va, fun na => ?_, fun z => ih (a + 1) u x4 (by omega) fu mu (fun x hx => (lt x hx).trans ?_) (fun a' b h1 h2 h3 h4 h5 => ?_)⟩
      rotate_left
      · constructor
        · rintro ⟨y1, a', y2, y3⟩
          exact ⟨y1, a', by omega, y3⟩
        · rintro ⟨y1, a', y2, y3, y4⟩
          by_cases t : a' = a
          · rw [t] at y3; exact absurd z y3
          · exact ⟨y1, a', by omega, y3, y4⟩
      · by_cases t : a' = a
        · rw [t] at h4; exact absurd z h4
        · exact pc a' b (by omega) h2 h3 h4 h5
      -- light
      have l117 : ∀ (q2 c : Nat) (v : ah_T) (y4 : Int32), c + q2 = 12 → knF h v → mhO A s k v → (∀ b, b < hN s → a ≠ b → hch s k r b ≠ 0 → shS9 A a (hkd s k r a) (hkd s k r b) (sgN A (nth (sS s) a) (nth (sS s) b)) 0 m = false) → (∀ x, x < 32 → (bt y4 x = true ↔ (x < 12 ∧ ∃ a', a' < a ∧ hch s k r a' ≠ 0 ∧ reB A (a' + 1) (hkd s k r a') m (nth (sS s) a') x = true) ∨ (x < c ∧ reB A (a + 1) (hkd s k r a) m (nth (sS s) a) x = true))) → Wp mX12_hangs Q 0 0 117 [some (.ref 82), some (.int (nI (hN s))), some (.int (nI w)), some (.int (nI m)), some (.int y4), some (.int (nI a)), some (.int (nI c))] [] v := by
        intro q2
        induction q2 with
        | zero =>
          intro c v y4 hc fv mv pa ly
          have e9 : c = 12 := by omega
          subst e9
          refine T_X12_hangs_117 fv.1 _ _ _ _ _ _ ?_
          (first | refine ⟨fun _ => ?_, fun n_ => absurd (show 12 ≤ nI 12 from nI_le (a := 12) (by omega) (by omega)) n_⟩ | refine ⟨fun n_ => absurd (show 12 ≤ nI 12 from nI_le (a := 12) (by omega) (by omega)) n_, fun _ => ?_⟩ | refine ⟨fun y_ => absurd y_ (show 12 ≤ nI 12 from nI_le (a := 12) (by omega) (by omega)), fun _ => ?_⟩ | refine ⟨fun _ => ?_, fun y_ => absurd y_ (show 12 ≤ nI 12 from nI_le (a := 12) (by omega) (by omega))⟩)
          rw [nI_1]
          refine ih (a + 1) v y4 (by omega) fv mv (fun x hx => (ly x hx).trans ?_) (fun a' b h1 h2 h3 h4 h5 => ?_)
          · constructor
            · rintro (⟨y1, a', y2, y3⟩ | ⟨y1, y2⟩)
              · exact ⟨y1, a', by omega, y3⟩
              · exact ⟨y1, a, by omega, na, y2⟩
            · rintro ⟨y1, a', y2, y3, y4⟩
              by_cases t : a' = a
              · rw [t] at y4; exact .inr ⟨y1, y4⟩
              · exact .inl ⟨y1, a', by omega, y3, y4⟩
          · by_cases t : a' = a
            · rw [t]; rw [t] at h3; exact pa b h2 h3 h5
            · exact pc a' b (by omega) h2 h3 h4 h5
        | succ q2 ih2 =>
          intro c v y4 hc fv mv pa ly
          refine T_X12_hangs_117 fv.1 _ _ _ _ _ _ ?_
          (first | refine ⟨fun _ => ?_, fun n_ => absurd (show ¬ 12 ≤ nI c from nI_ge (b := 12) (by omega) (by omega)) n_⟩ | refine ⟨fun n_ => absurd (show ¬ 12 ≤ nI c from nI_ge (b := 12) (by omega) (by omega)) n_, fun _ => ?_⟩ | refine ⟨fun y_ => absurd y_ (show ¬ 12 ≤ nI c from nI_ge (b := 12) (by omega) (by omega)), fun _ => ?_⟩ | refine ⟨fun _ => ?_, fun y_ => absurd y_ (show ¬ 12 ≤ nI c from nI_ge (b := 12) (by omega) (by omega))⟩)
          rw [n117 fv.1, n118 fv.1, nI_clamp (show a < 2 ^ 31 by omega), mv.2.2.2.1 a han, e118 fv a han, nI_1, e0]
          refine ⟨va, va, m_reached fv.1 mv (l := a + 1) (nO_s a).symm rfl rfl rfl rfl (by omega) (c12 a han) (k6 a na) (by omega) v8 (fun g f1 m1 => ⟨_, rfl, f1.1, ?_⟩)⟩
          rw [bI_0]
          refine ⟨fun z => ih2 (c + 1) g y4 (by omega) (knF_t fv f1) m1 pa (fun x hx => (ly x hx).trans ?_), fun z => ih2 (c + 1) g _ (by omega) (knF_t fv f1) m1 pa (fun x hx => ?_)⟩
          · constructor
            · rintro (y | ⟨y1, y2⟩)
              · exact .inl y
              · exact .inr ⟨by omega, y2⟩
            · rintro (y | ⟨y1, y2⟩)
              · exact .inl y
              · by_cases t : x = c
                · rw [t, z] at y2; exact absurd y2 (by decide)
                · exact .inr ⟨by omega, y2⟩
          · have zt : reB A (a + 1) (hkd s k r a) m (nth (sS s) a) c = true := by cases t : reB A (a + 1) (hkd s k r a) m (nth (sS s) a) c; exact absurd t z; rfl
            rw [b_or, Bool.or_eq_true, ly x hx, b_1sh (by omega) hx, decide_eq_true_eq]
            constructor
            · rintro ((y | ⟨y1, y2⟩) | y)
              · exact .inl y
              · exact .inr ⟨by omega, y2⟩
              · rw [y]; exact .inr ⟨by omega, zt⟩
            · rintro (y | ⟨y1, y2⟩)
              · exact .inl (.inl y)
              · by_cases t : x = c
                · exact .inr t
                · exact .inl (.inr ⟨by omega, y2⟩)
      -- whom it shuns
      have l30 : ∀ (q2 b : Nat) (v : ah_T), b + q2 = hN s → knF h v → mhO A s k v → (∀ b', b' < b → a ≠ b' → hch s k r b' ≠ 0 → shS9 A a (hkd s k r a) (hkd s k r b') (sgN A (nth (sS s) a) (nth (sS s) b')) 0 m = false) → Wp mX12_hangs Q 0 0 30 [some (.ref 82), some (.int (nI (hN s))), some (.int (nI w)), some (.int (nI m)), some (.int x4), some (.int (nI a)), some (.int (nI b))] [] v := by
        intro q2
        induction q2 with
        | zero =>
          intro b v hb fv mv pa
          have e9 : b = hN s := by omega
          subst e9
          refine T_X12_hangs_30 fv.1 _ _ _ _ _ _ ?_
          (first | refine ⟨fun _ => ?_, fun n_ => absurd (show nI (hN s) ≤ nI (hN s) from nI_le (Nat.le_refl _) (by omega)) n_⟩ | refine ⟨fun n_ => absurd (show nI (hN s) ≤ nI (hN s) from nI_le (Nat.le_refl _) (by omega)) n_, fun _ => ?_⟩ | refine ⟨fun y_ => absurd y_ (show nI (hN s) ≤ nI (hN s) from nI_le (Nat.le_refl _) (by omega)), fun _ => ?_⟩ | refine ⟨fun _ => ?_, fun y_ => absurd y_ (show nI (hN s) ≤ nI (hN s) from nI_le (Nat.le_refl _) (by omega))⟩)
          exact l117 12 0 v x4 (by omega) fv mv pa (fun x hx => (lt x hx).trans ⟨fun y => .inl y, fun y => y.elim id (fun z => absurd z.1 (by omega))⟩)
        | succ q2 ih2 =>
          intro b v hb fv mv pa
          have hbn : b < hN s := by omega
          have vb : vp_in (nI b) 6 := (vp_nI (by omega)).mpr (by omega)
          have nx : ∀ (v' : ah_T), knF h v' → mhO A s k v' → (a ≠ b → hch s k r b ≠ 0 → shS9 A a (hkd s k r a) (hkd s k r b) (sgN A (nth (sS s) a) (nth (sS s) b)) 0 m = false) → Wp mX12_hangs Q 0 0 30 [some (.ref 82), some (.int (nI (hN s))), some (.int (nI w)), some (.int (nI m)), some (.int x4), some (.int (nI a)), some (.int (nI (b + 1)))] [] v' := fun v' f1 m1 ok => ih2 (b + 1) v' (by omega) f1 m1 (fun b' h1 h2 h3 => by
            by_cases t : b' = b
            · rw [t]; rw [t] at h2 h3; exact ok h2 h3
            · exact pa b' (by omega) h2 h3)
          refine T_X12_hangs_30 fv.1 _ _ _ _ _ _ ?_
          (first | refine ⟨fun _ => ?_, fun n_ => absurd (show ¬ nI (hN s) ≤ nI b from nI_ge hbn (by omega)) n_⟩ | refine ⟨fun n_ => absurd (show ¬ nI (hN s) ≤ nI b from nI_ge hbn (by omega)) n_, fun _ => ?_⟩ | refine ⟨fun y_ => absurd y_ (show ¬ nI (hN s) ≤ nI b from nI_ge hbn (by omega)), fun _ => ?_⟩ | refine ⟨fun _ => ?_, fun y_ => absurd y_ (show ¬ nI (hN s) ≤ nI b from nI_ge hbn (by omega))⟩)
          rw [nI_1, nI_eq (show b < 2 ^ 31 by omega) (show a < 2 ^ 31 by omega), n117 fv.1, n118 fv.1, nI_clamp (show a < 2 ^ 31 by omega), nI_clamp (show b < 2 ^ 31 by omega), mv.2.2.2.1 a han, mv.2.2.2.1 b hbn, e118 fv a han, e118 fv b hbn, k100]
          refine ⟨fun z => nx v fv mv (fun y => absurd z.symm y), fun z => ⟨vb, fun nb' => ?_, fun z2 => nx v fv mv (fun _ y => absurd z2 y)⟩⟩
          have cc : (12 : Int32) * nI (nth (sS s) a) + nI (nth (sS s) b) = nI (12 * nth (sS s) a + nth (sS s) b) := by rw [n_12, nI_mul, nI_add]
          have ca := c12 a han
          have cb' := c12 b hbn
          obtain ⟨p1, p2, p3⟩ := sgN_d (mv.2.2.1 _ _ ca cb')
          rw [cc, nI_clamp (show 12 * nth (sS s) a + nth (sS s) b < 2 ^ 31 by omega), p1, sh_n fv.1 99 144 (by decide) (by decide) rfl]
          refine ⟨va, vb, va, vb, (vp_nI (by omega)).mpr (by omega), ?_⟩
          refine mt_shuns fv.1 mv.1 mv.2.1 (l := a) (ki := hkd s k r a) (o := hkd s k r b) (ne := sgN A (nth (sS s) a) (nth (sS s) b)) (la := 0) (mi := m) (by omega) (k6 a na) (k6 b nb') p2 (by omega) v8 rfl rfl rfl rfl rfl rfl (fun g f1 k1 => ⟨_, rfl, f1.1, ?_⟩)
          rw [bI_0]
          refine ⟨fun z3 => nx g (knF_t fv f1) (mhO_k f1 k1 mv) (fun _ _ => z3), fun z3 => hq2 (fun ok => z3 (ok.1 a b han hbn (Ne.symm z) na nb')) g (knF_t fv f1) (mhO_k f1 k1 mv)⟩
      exact l30 (hN s) 0 u (by omega) fu mu (fun b' hb => absurd hb (by omega))
  exact T_X12_hangs hs _ _ _ (l6 (hN s) 0 h 0 (by omega) (knF_r hs) q0 (fun x _ => by
    rw [b_0]
    exact ⟨fun y => absurd y (by decide), fun ⟨_, a', y, _⟩ => absurd y (by omega)⟩) (fun a' b h1 => absurd h1 (by omega)))
end HM
