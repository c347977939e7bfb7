/-! ===== shutters: the class gathers all quarrels of a night ===== -/
def sdS (A : Nat → Nat) (h : ah_T) : Prop := ∀ a b i, a < 12 → b < 12 → i < 32 → bt (ah_i h 79 (12 * a + b)) i = true → poS A a b i ∧ cfl A (nd0 A) a b i
def kn1 (A : Nat → Nat) (h : ah_T) (m l o : Nat) : Prop := ∀ v, v < 13 → poS A (A (60 + 3 * l)) (A (60 + 3 * o)) v → cfO A (nd0 A) m l o v → bt (ah_i h 79 (12 * A (60 + 3 * l) + A (60 + 3 * o))) v = true
def kn2 (A : Nat → Nat) (h : ah_T) (m l k : Nat) : Prop := ∀ b v, v < 13 → plA A k m = b + 1 → poS A (A (60 + 3 * l)) b v → cfK A (nd0 A) m l k v → bt (ah_i h 79 (12 * A (60 + 3 * l) + b)) v = true
def grW (h g : ah_T) : Prop := ∀ j i, i < 32 → bt (ah_i h 79 j) i = true → bt (ah_i g 79 j) i = true
/-- all of a minute is known -/
def knM (A : Nat → Nat) (h : ah_T) (m : Nat) : Prop := ∀ l, l < A 246 → (qW A (nd0 A) m).bu l = true → (∀ o, o < A 246 → kn1 A h m l o) ∧ ∀ k, k < A 248 → kn2 A h m l k
section GQ
variable {A : Nat → Nat} {h g u : ah_T} {m l o k v a b n g0 p : Nat} {N : Nd} {S : Ns} {fr fr' : Nat → Bool}
theorem kn1_g (w : grW h g) (y : kn1 A h m l o) : kn1 A g m l o := fun v hv p1 p2 => w _ _ (by omega) (y v hv p1 p2)
theorem kn2_g (w : grW h g) (y : kn2 A h m l k) : kn2 A g m l k := fun b v hv p0 p1 p2 => w _ _ (by omega) (y b v hv p0 p1 p2)
theorem knM_g (w : grW h g) (y : knM A h m) : knM A g m := fun l hl bl => ⟨fun o ho => kn1_g w ((y l hl bl).1 o ho), fun k hk => kn2_g w ((y l hl bl).2 k hk)⟩
theorem c_moved2 {Q : Option Value → ah_T → Prop} {sp : Nat} (hs : Sh h) {L : Option (List Cl)} (l0 : lwO L h) (d : cND A N sp h) {x1 : Int32} (e1 : x1 = nI m) (hm : m < 120) (hq : ∀ v, (∀ k, k < N.q → bt v k = true ∨ N.pl k m = 0 ∨ (0 < m ∧ N.pl k (m - 1) = N.pl k m ∧ ¬ bt (usd h 0) 5 = true)) → Q (some (.int v)) h) : Mt mX3_movedLanterns [.ref 43, .int x1] h Q := by
  subst e1
  obtain ⟨⟨d0, d1, d2, d3⟩, f, d4, d5, d6, d7, d8, d9⟩ := d
  have lp : ∀ (q k : Nat) (v : Int32), k + q = N.q → (∀ k', k' < k → bt v k' = true ∨ N.pl k' m = 0 ∨ (0 < m ∧ N.pl k' (m - 1) = N.pl k' m ∧ ¬ bt (usd h 0) 5 = true)) → Wp mX3_movedLanterns Q 0 0 4 [some (.ref 43), some (.int (nI m)), some (.int v), some (.int (nI k)), none, none] [] h := by
    intro q
    induction q with
    | zero =>
      intro k v hk hv
      have e9 : k = N.q := by omega
      subst e9
      refine T_X3_movedLanterns_4 hs _ _ _ ?_
      rw [d5]
      (first | refine ⟨fun _ => ?_, fun n_ => absurd (show nI N.q ≤ nI N.q from nI_le (by omega) (by omega)) n_⟩ | refine ⟨fun n_ => absurd (show nI N.q ≤ nI N.q from nI_le (by omega) (by omega)) n_, fun _ => ?_⟩ | refine ⟨fun y_ => absurd y_ (show nI N.q ≤ nI N.q from nI_le (by omega) (by omega)), fun _ => ?_⟩ | refine ⟨fun _ => ?_, fun y_ => absurd y_ (show nI N.q ≤ nI N.q from nI_le (by omega) (by omega))⟩)
      exact hq v hv
    | succ q ih =>
      intro k v hk hv
      have hk2 : k < N.q := by omega
      obtain ⟨u1, u2⟩ := d3 k hk2
      have u3 := u2 m hm
      have same : (N.pl k m = 0 ∨ (0 < m ∧ N.pl k (m - 1) = N.pl k m ∧ ¬ bt (usd h 0) 5 = true)) → Wp mX3_movedLanterns Q 0 0 4 [some (.ref 43), some (.int (nI m)), some (.int v), some (.int (nI (k + 1))), none, none] [] h := by
        intro w
        refine ih (k + 1) v (by omega) (fun k' hk' => ?_)
        by_cases z : k' = k
        · subst z; exact .inr w
        · exact hv k' (by omega)
      have more : Wp mX3_movedLanterns Q 0 0 4 [some (.ref 43), some (.int (nI m)), some (.int (v ||| ((1 : Int32) <<< (nI k &&& 31)))), some (.int (nI (k + 1))), none, none] [] h := ih (k + 1) _ (by omega) (fun k' hk' => by
        by_cases z : k' = k
        · left
          rw [z, b_or, b_1sh (by omega) (by omega), decide_eq_true rfl, Bool.or_true]
        · rcases hv k' (by omega) with y | y
          · left
            rw [b_or, y]; rfl
          · exact .inr y)
      have c1 : nI k * 120 + nI m = nI (120 * k + m) := by rw [n_120, nI_mul, nI_add]; congr 1; omega
      have vp : vp_in (nI (120 * k + m)) 360 := (vp_nI (by omega)).mpr (by omega)
      have heed : (0 < m → N.pl k (m - 1) = N.pl k m) → (m = 0 → N.pl k m = 0) → Mt mX8_heeds [.ref 38, .int 0, .int 5] h (ab_qi fun v9 h7 => Sh h7 ∧ ((v9 = 0 → Wp mX3_movedLanterns Q 0 0 4 [some (.ref 43), some (.int (nI m)), some (.int v), some (.int (nI (k + 1))), none, none] [] h7) ∧ (¬ v9 = 0 → Wp mX3_movedLanterns Q 0 0 4 [some (.ref 43), some (.int (nI m)), some (.int (v ||| ((1 : Int32) <<< (nI k &&& 31)))), some (.int (nI (k + 1))), none, none] [] h7))) := by
        intro w w0
        refine c_heeds hs l0 (what := 0) (b := 5) rfl rfl (by omega) (by omega) ⟨_, rfl, hs, ?_⟩
        by_cases z : bt (usd h 0) 5 = true
        · rw [if_pos z]
          (first | refine ⟨fun _ => ?_, fun n_ => absurd (show ¬ (1 : Int32) = 0 by decide) n_⟩ | refine ⟨fun n_ => absurd (show ¬ (1 : Int32) = 0 by decide) n_, fun _ => ?_⟩ | refine ⟨fun y_ => absurd y_ (show ¬ (1 : Int32) = 0 by decide), fun _ => ?_⟩ | refine ⟨fun _ => ?_, fun y_ => absurd y_ (show ¬ (1 : Int32) = 0 by decide)⟩)
          exact more
        · rw [if_neg z]
          (first | refine ⟨fun _ => ?_, fun n_ => absurd (show (0 : Int32) = 0 by rfl) n_⟩ | refine ⟨fun n_ => absurd (show (0 : Int32) = 0 by rfl) n_, fun _ => ?_⟩ | refine ⟨fun y_ => absurd y_ (show (0 : Int32) = 0 by rfl), fun _ => ?_⟩ | refine ⟨fun _ => ?_, fun y_ => absurd y_ (show (0 : Int32) = 0 by rfl)⟩)
          rcases Nat.eq_zero_or_pos m with y | y
          · exact same (.inl (w0 y))
          · exact same (.inr ⟨y, w y, z⟩)
      refine T_X3_movedLanterns_4 hs _ _ _ ?_
      rw [d5]
      (first | refine ⟨fun _ => ?_, fun n_ => absurd (show ¬ nI N.q ≤ nI k from nI_ge (by omega) (by omega)) n_⟩ | refine ⟨fun n_ => absurd (show ¬ nI N.q ≤ nI k from nI_ge (by omega) (by omega)) n_, fun _ => ?_⟩ | refine ⟨fun y_ => absurd y_ (show ¬ nI N.q ≤ nI k from nI_ge (by omega) (by omega)), fun _ => ?_⟩ | refine ⟨fun _ => ?_, fun y_ => absurd y_ (show ¬ nI N.q ≤ nI k from nI_ge (by omega) (by omega))⟩)
      rw [c1, nI_1, nI_clamp (show 120 * k + m < 2 ^ 31 by omega), (d8 k hk2).2 m hm, sh_n hs 49 360 (by decide) (by decide) rfl]
      refine ⟨vp, fun zm => ?_, fun zm => ?_⟩
      · have m0 : m ≠ 0 := fun y => zm (by rw [y]; rfl)
        have c2 : nI (120 * k + m) - 1 = nI (120 * k + (m - 1)) := by rw [show 120 * k + m = (120 * k + (m - 1)) + 1 by omega]; exact nI_pred _
        rw [c2, nI_clamp (show 120 * k + (m - 1) < 2 ^ 31 by omega), (d8 k hk2).2 (m - 1) (by omega)]
        refine ⟨(vp_nI (by omega)).mpr (by omega), fun y => ?_, fun y => ⟨fun _ => more, fun y2 => ?_⟩⟩
        · rcases Nat.eq_zero_or_pos (N.pl k m) with w | w
          · exact same (.inl w)
          · rw [show N.pl k m = (N.pl k m - 1) + 1 by omega, nO_s] at y
            exact absurd y (nI_m1 (by omega))
        · have u4 := u2 (m - 1) (by omega)
          have e2 : N.pl k (m - 1) = N.pl k m := by
            have q2 : ∀ j, nI j - 1 + 1 = nI j := fun j => by rw [Int32.sub_add_cancel]
            have y3 := y2
            unfold nO at y3
            have y4 : nI (N.pl k m) - 1 + 1 = nI (N.pl k (m - 1)) - 1 + 1 := by rw [y3]
            rw [q2, q2] at y4
            exact ((nI_eq (by omega) (by omega)).mp y4).symm
          exact heed (fun _ => e2) (fun y => absurd y m0)
      · have m0 : m = 0 := (nI_eq (b := 0) (by omega) (by omega)).mp zm
        refine ⟨fun y => ?_, fun y => ⟨fun _ => more, fun y2 => absurd y2 y⟩⟩
        rcases Nat.eq_zero_or_pos (N.pl k m) with w | w
        · exact same (.inl w)
        · rw [show N.pl k m = (N.pl k m - 1) + 1 by omega, nO_s] at y
          exact absurd y (nI_m1 (by omega))
  exact T_X3_movedLanterns hs _ (lp N.q 0 0 (by omega) (fun k' hk' => absurd hk' (Nat.not_lt_zero _)))
theorem pair_u {a b a' b' : Nat} (ha : a < 12) (hb : b < 12) (ha' : a' < 12) (hb' : b' < 12) (e : 12 * a + b = 12 * a' + b') : a = a' ∧ b = b' := by omega
theorem sd_lr {a' b' : Nat} {qv : Nat → Prop} (ha' : a' < 12) (hb' : b' < 12) (s : sdS A h) (lr : lrS A h a' b' qv g) (hc : ∀ i, qv i → cfl A (nd0 A) a' b' i) : sdS A g := by
  intro a b i ha hb hi y
  rcases lr.2 _ i hi y with z | ⟨z1, z2, z3⟩
  · exact s a b i ha hb hi z
  · obtain ⟨e1, e2⟩ := pair_u ha hb ha' hb' z1
    rw [e1, e2]
    exact ⟨z2, hc i z3⟩
theorem c_learnOfLamps {Q : Option Value → ah_T → Prop} {x1 x2 x3 : Int32} (hs : Sh h) (c : cor g0 A h) (n : cNS (nd0 A) (qW A (nd0 A) m) fr h) (s0 : sdS A h) (e1 : x1 = nI l) (e3 : x3 = nI m) (hl : l < A 246) (bl : (qW A (nd0 A) m).bu l = true) (hm : m < 120) (hx : ∀ o, o < A 246 → bt x2 o = true → (qW A (nd0 A) m).bu o = true) (hq : ∀ g, lnF h g → cor g0 A g → sdS A g → (∀ o, o < A 246 → bt x2 o = true → kn1 A g m l o) → Q none g) : Mt mX4_learnOfLamps [.ref 74, .int x1, .int x2, .int x3] h Q := by
  subst e1 e3
  have wd := c.2.2.1.1
  have w10 : A 246 ≤ 10 := wd.1
  refine T_X4_learnOfLamps hs _ _ _ ?_
  have lp : ∀ (q o : Nat) (u : ah_T), o + q = A 246 → lnF h u → cor g0 A u → sdS A u → (∀ o', o' < o → bt x2 o' = true → kn1 A u m l o') → Wp mX4_learnOfLamps Q 0 0 3 [some (.ref 74), some (.int (nI l)), some (.int x2), some (.int (nI m)), some (.int (nI o))] [] u := by
    intro q
    induction q with
    | zero =>
      intro o u ho fu cu su ku
      have e9 : o = A 246 := by omega
      refine T_X4_learnOfLamps_3 fu.1 _ _ _ _ ?_
      rw [show ah_i u 43 0 = nI (A 246) from cu.2.2.1.2.2.1]
      (first | refine ⟨fun _ => ?_, fun n_ => absurd (show nI (A 246) ≤ nI o from nI_le (by omega) (by omega)) n_⟩ | refine ⟨fun n_ => absurd (show nI (A 246) ≤ nI o from nI_le (by omega) (by omega)) n_, fun _ => ?_⟩ | refine ⟨fun y_ => absurd y_ (show nI (A 246) ≤ nI o from nI_le (by omega) (by omega)), fun _ => ?_⟩ | refine ⟨fun _ => ?_, fun y_ => absurd y_ (show nI (A 246) ≤ nI o from nI_le (by omega) (by omega))⟩)
      exact hq u fu cu su (fun o' ho' => ku o' (by omega))
    | succ q ih =>
      intro o u ho fu cu su ku
      have ho2 : o < A 246 := by omega
      have skip : (bt x2 o = true → kn1 A u m l o) → Wp mX4_learnOfLamps Q 0 0 3 [some (.ref 74), some (.int (nI l)), some (.int x2), some (.int (nI m)), some (.int (nI (o + 1)))] [] u := fun w => ih (o + 1) u (by omega) fu cu su (fun o' ho' y => by
        by_cases z : o' = o
        · subst z; exact w y
        · exact ku o' (by omega) y)
      refine T_X4_learnOfLamps_3 fu.1 _ _ _ _ ?_
      rw [show ah_i u 43 0 = nI (A 246) from cu.2.2.1.2.2.1]
      (first | refine ⟨fun _ => ?_, fun n_ => absurd (show ¬ nI (A 246) ≤ nI o from nI_ge (by omega) (by omega)) n_⟩ | refine ⟨fun n_ => absurd (show ¬ nI (A 246) ≤ nI o from nI_ge (by omega) (by omega)) n_, fun _ => ?_⟩ | refine ⟨fun y_ => absurd y_ (show ¬ nI (A 246) ≤ nI o from nI_ge (by omega) (by omega)), fun _ => ?_⟩ | refine ⟨fun _ => ?_, fun y_ => absurd y_ (show ¬ nI (A 246) ≤ nI o from nI_ge (by omega) (by omega))⟩)
      rw [nI_1, b_bit _ _ (show o < 32 by omega), nI_eq (by omega) (by omega)]
      refine ⟨fun z => skip (fun _ v _ _ y => absurd z y.1), fun z => ⟨fun y => skip (fun w => by rw [y] at w; exact absurd w (by decide)), fun y => ?_⟩⟩
      have yb : bt x2 o = true := by
        cases e : bt x2 o
        · exact absurd e y
        · rfl
      have bo := hx o ho2 yb
      obtain ⟨i44, i45⟩ := cu.2.2.1.2.2.2.2.2.1 o ho2
      have i44' : ah_i u 44 o = nI (A (60 + 3 * o)) := i44
      have i45' : ah_i u 45 o = nI (A (61 + 3 * o)) := i45
      rw [nI_clamp (show o < 2 ^ 31 by omega), i44', i45', sh_n fu.1 44 10 (by decide) (by decide) rfl, sh_n fu.1 45 10 (by decide) (by decide) rfl]
      have vo : vp_in (nI o) 10 := (vp_nI (by omega)).mpr (by omega)
      refine ⟨vo, vo, c_learnL fu.1 cu (cNS_ln fu n) rfl rfl rfl rfl rfl hl ho2 bl bo hm (fun g fg cg lr => ⟨rfl, fg.1, ?_⟩)⟩
      have ca : A (60 + 3 * l) < 12 := (wd.2.1 l hl).1
      have cb' : A (60 + 3 * o) < 12 := (wd.2.1 o ho2).1
      refine ih (o + 1) g (by omega) (lnF_t fu fg) cg (sd_lr ca cb' su lr (fun i q => ⟨m, l, hm, hl, bl, rfl, .inl ⟨o, ho2, rfl, Ne.intro z, bo, q⟩⟩)) (fun o' ho' y' => ?_)
      by_cases z1 : o' = o
      · subst z1
        exact fun v _ p1 p2 => lr.1 v p1 p2.2.2
      · exact kn1_g fg.2.2.2.2 (ku o' (by omega) y')
  exact lp (A 246) 0 h (by omega) (lnF_r hs) c s0 (fun o' ho' => absurd ho' (Nat.not_lt_zero _))
theorem c_learnOfLanterns {Q : Option Value → ah_T → Prop} {x1 x2 x3 : Int32} (hs : Sh h) (c : cor g0 A h) (s0 : sdS A h) (e1 : x1 = nI l) (e3 : x3 = nI m) (hl : l < A 246) (bl : (qW A (nd0 A) m).bu l = true) (hm : m < 120) (hq : ∀ g, lnF h g → cor g0 A g → sdS A g → (∀ k, k < A 248 → bt x2 k = true → kn2 A g m l k) → Q none g) : Mt mX4_learnOfLanterns [.ref 74, .int x1, .int x2, .int x3] h Q := by
  subst e1 e3
  have wd := c.2.2.1.1
  have w10 : A 246 ≤ 10 := wd.1
  have w3 : A 248 ≤ 3 := wd.2.2.1
  refine T_X4_learnOfLanterns hs _ _ _ ?_
  have lp : ∀ (q k : Nat) (u : ah_T), k + q = A 248 → lnF h u → cor g0 A u → sdS A u → (∀ k', k' < k → bt x2 k' = true → kn2 A u m l k') → Wp mX4_learnOfLanterns Q 0 0 3 [some (.ref 74), some (.int (nI l)), some (.int x2), some (.int (nI m)), some (.int (nI k)), none] [] u := by
    intro q
    induction q with
    | zero =>
      intro k u hk fu cu su ku
      refine T_X4_learnOfLanterns_3 fu.1 _ _ _ _ ?_
      rw [show ah_i u 43 8 = nI (A 248) from cu.2.2.1.2.2.2.1]
      (first | refine ⟨fun _ => ?_, fun n_ => absurd (show nI (A 248) ≤ nI k from nI_le (by omega) (by omega)) n_⟩ | refine ⟨fun n_ => absurd (show nI (A 248) ≤ nI k from nI_le (by omega) (by omega)) n_, fun _ => ?_⟩ | refine ⟨fun y_ => absurd y_ (show nI (A 248) ≤ nI k from nI_le (by omega) (by omega)), fun _ => ?_⟩ | refine ⟨fun _ => ?_, fun y_ => absurd y_ (show nI (A 248) ≤ nI k from nI_le (by omega) (by omega))⟩)
      exact hq u fu cu su (fun k' hk' => ku k' (by omega))
    | succ q ih =>
      intro k u hk fu cu su ku
      have hk2 : k < A 248 := by omega
      have skip : (bt x2 k = true → kn2 A u m l k) → Wp mX4_learnOfLanterns Q 0 0 3 [some (.ref 74), some (.int (nI l)), some (.int x2), some (.int (nI m)), some (.int (nI (k + 1))), none] [] u := fun w => ih (k + 1) u (by omega) fu cu su (fun k' hk' y => by
        by_cases z : k' = k
        · subst z; exact w y
        · exact ku k' (by omega) y)
      obtain ⟨i48, i49⟩ := cu.2.2.1.2.2.2.2.2.2.1 k hk2
      have i48' : ah_i u 48 k = nI (A (162 + 19 * k)) := i48
      have i49' : ah_i u 49 (120 * k + m) = nO (plA A k m) := i49 m hm
      have p12 : plA A k m ≤ 12 := (wd.2.2.2 k hk2).2 m hm
      have k6 : A (162 + 19 * k) < 6 := (wd.2.2.2 k hk2).1
      have c1 : nI k * 120 + nI m = nI (120 * k + m) := by rw [n_120, nI_mul, nI_add]; congr 1; omega
      refine T_X4_learnOfLanterns_3 fu.1 _ _ _ _ ?_
      rw [show ah_i u 43 8 = nI (A 248) from cu.2.2.1.2.2.2.1]
      (first | refine ⟨fun _ => ?_, fun n_ => absurd (show ¬ nI (A 248) ≤ nI k from nI_ge (by omega) (by omega)) n_⟩ | refine ⟨fun n_ => absurd (show ¬ nI (A 248) ≤ nI k from nI_ge (by omega) (by omega)) n_, fun _ => ?_⟩ | refine ⟨fun y_ => absurd y_ (show ¬ nI (A 248) ≤ nI k from nI_ge (by omega) (by omega)), fun _ => ?_⟩ | refine ⟨fun _ => ?_, fun y_ => absurd y_ (show ¬ nI (A 248) ≤ nI k from nI_ge (by omega) (by omega))⟩)
      rw [c1, nI_1, b_bit _ _ (show k < 32 by omega), nI_clamp (show 120 * k + m < 2 ^ 31 by omega), nI_clamp (show k < 2 ^ 31 by omega), i49', i48', sh_n fu.1 49 360 (by decide) (by decide) rfl, sh_n fu.1 48 3 (by decide) (by decide) rfl]
      refine ⟨(vp_nI (by omega)).mpr (by omega), fun z => skip (fun _ b v _ y => ?_), fun z => ⟨fun y => skip (fun w => by rw [y] at w; exact absurd w (by decide)), fun y => ⟨(vp_nI (by omega)).mpr (by omega), ?_⟩⟩⟩
      · rw [y, nO_s] at z
        exact absurd z (nI_m1 (by omega))
      obtain ⟨b, eb⟩ : ∃ b, plA A k m = b + 1 := by
        rcases Nat.eq_zero_or_pos (plA A k m) with w | w
        · rw [w] at z; exact absurd rfl z
        · exact ⟨plA A k m - 1, by omega⟩
      rw [eb, nO_s]
      refine c_learnK fu.1 cu rfl rfl rfl rfl hl k6 (show b < 12 by omega) hm (fun g fg cg lr => ⟨rfl, fg.1, ?_⟩)
      have ca : A (60 + 3 * l) < 12 := (wd.2.1 l hl).1
      refine ih (k + 1) g (by omega) (lnF_t fu fg) cg (sd_lr ca (by omega) su lr (fun i q => ⟨m, l, hm, hl, bl, rfl, .inr ⟨k, hk2, eb, by show plA A k m ≠ 0; omega, q⟩⟩)) (fun k' hk' y' => ?_)
      by_cases z1 : k' = k
      · subst z1
        intro b' v _ p0 p1 p2
        rw [eb] at p0
        have : b' = b := by omega
        subst this
        exact lr.1 v p1 p2.2
      · exact kn2_g fg.2.2.2.2 (ku k' (by omega) y')
  exact lp (A 248) 0 h (by omega) (lnF_r hs) c s0 (fun k' hk' => absurd hk' (Nat.not_lt_zero _))
end GQ
