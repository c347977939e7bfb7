/-! ===== the light: the model's, the class's balls ===== -/
noncomputable def reB (A : Nat → Nat) (l k m a c : Nat) : Bool := decide (sgN A a c ≠ 0 ∧ sgN A a c - 1 ≤ rchA A l k m)
/-- a corner is light, by the lamps that are lit -/
noncomputable def brP (A : Nat → Nat) (N : Nd) (lt : Nat → Bool) (m c : Nat) : Bool := (List.range N.n).any (fun l => lt l && reB A (l + 1) (N.ki l) m (N.co l) c) || (List.range N.q).any (fun k => decide (N.pl k m ≠ 0) && reB A 0 (N.lk k) m (N.pl k m - 1) c)
def brV (A : Nat → Nat) (N : Nd) (lt : Nat → Bool) (m : Nat) (v : Int32) : Prop := ∀ i, i < 32 → (bt v i = true ↔ i < 12 ∧ brP A N lt m i = true)
section LT
variable {A : Nat → Nat} {N : Nd} {h g h1 : ah_T} {g0 sp : Nat} {S : Ns} {fr : Nat → Bool}
theorem brV_u {lt : Nat → Bool} {m : Nat} {v w : Int32} (a : brV A N lt m v) (b : brV A N lt m w) : v = w := b_ext (fun i hi => by
  have e1 := a i hi
  have e2 := b i hi
  cases y : bt v i <;> cases z : bt w i
  · rfl
  · rw [e1.mpr (e2.mp z)] at y; exact absurd y (by decide)
  · rw [e2.mpr (e1.mp y)] at z; exact absurd z (by decide)
  · rfl)
theorem nI_geI {a b : Nat} (ha : a < 2 ^ 31) (hb : b < 2 ^ 31) : ¬ nI a < nI b ↔ b ≤ a := by rw [nI_ltI ha hb]; omega
theorem m_isReached {Q : Option Value → ah_T → Prop} (hs : Sh h) (b : mBa A N h) {l a k c m : Nat} {x1 x2 x3 x4 x5 : Int32} (e1 : x1 = nO l) (e2 : x2 = nI a) (e3 : x3 = nI k) (e4 : x4 = nI c) (e5 : x5 = nI m) (hl : l < 11) (ha : a < 12) (hk : k < 6) (hc : c < 12) (hm : m < 120)
    (hq : ∀ h', knF h h' → mBa A N h' → Q (some (.int (bI (reB A l k m a c)))) h') : Mt mX12_isReached [.ref 82, .int x1, .int x2, .int x3, .int x4, .int x5] h Q := by
  subst e1 e2 e3 e4 e5
  have d7 := b.2.2.1.2.2.2.2.2.2
  obtain ⟨p1, p2, p3⟩ := sgN_d (d7 a c ha hc)
  have c1 : (12 : Int32) * nI a + nI c = nI (12 * a + c) := by rw [n_12, nI_mul, nI_add]
  have v : vp_in (nI (12 * a + c)) 144 := (vp_nI (by omega)).mpr (by omega)
  refine T_X12_isReached hs _ _ _ _ _ ?_
  rw [c1, nI_clamp (show 12 * a + c < 2 ^ 31 by omega), p1, sh_n hs 99 144 (by decide) (by decide) rfl]
  refine ⟨v, fun z => ?_, fun z => ⟨v, ?_⟩⟩
  · have s0 : sgN A a c = 0 := by
      rcases Nat.eq_zero_or_pos (sgN A a c) with w | w
      · exact w
      · rw [show sgN A a c = (sgN A a c - 1) + 1 by omega, nO_s] at z
        exact absurd z (nI_m1 (by omega))
    have := hq h (knF_r hs) b
    unfold reB at this
    rw [decide_eq_false (fun y => y.1 s0)] at this
    exact this
  · have s0 : sgN A a c ≠ 0 := fun w => z (by rw [w]; rfl)
    obtain ⟨s, es⟩ : ∃ s, sgN A a c = s + 1 := ⟨sgN A a c - 1, by omega⟩
    have r9 := rchA_le A l k m
    refine mt_reach hs b.1 b.2.1 hl hk hm rfl rfl rfl (fun g1 f1 k1 => ⟨_, rfl, f1.1, ?_⟩)
    have q := hq g1 f1 (mBa_k f1 k1 b)
    unfold reB at q
    rw [es, nO_s]
    refine ⟨fun w => ?_, fun w => ?_⟩
    · rw [nI_ltI (by omega) (by omega)] at w
      rw [decide_eq_false (fun y => by have := y.2; omega)] at q
      exact q
    · rw [nI_geI (by omega) (by omega)] at w
      rw [decide_eq_true ⟨s0, by omega⟩] at q
      exact q
theorem m_brightIn {Q : Option Value → ah_T → Prop} (hs : Sh h) (b : mBa A N h) {m M : Nat} {x1 : Int32} (e1 : x1 = nI m) (hm : m < 120) (hM : m < M) (nt : mNt A N M h) (hq : ∀ h' v, knF h h' → mBa A N h' → brV A N (litM A N m) m v → Q (some (.int v)) h') : Mt mX12_brightIn [.ref 82, .int x1] h Q := by
  subst e1
  have w10 := b.2.2.1.1.1
  have w3 := b.2.2.1.1.2.2.1
  have ko : ∀ {g : ah_T}, knF h g → ∀ l, l < N.n → ah_i g 109 (10 * m + l) = bI (litM A N m l) := fun f l hl => by
    rw [(f.2.2.1 109 (by decide) (by decide) (by decide) (by decide) (by decide)).1]
    exact (nt m hM l hl).1
  have e0 : ∀ x : Int32, x ||| 0 = x := fun x => b_ext (fun i _ => by rw [b_or, b_0, Bool.or_false])
  have l4 : ∀ (q c : Nat) (g : ah_T) (v : Int32), c + q = 12 → knF h g → mBa A N g → (∀ i, i < 32 → (bt v i = true ↔ i < c ∧ brP A N (litM A N m) m i = true)) → Wp mX12_brightIn Q 0 0 4 [some (.ref 82), some (.int (nI m)), some (.int v), some (.int (nI c)), none, none] [] g := by
    intro q
    induction q with
    | zero =>
      intro c g v hc f bg hv
      have e9 : c = 12 := by omega
      subst e9
      refine T_X12_brightIn_4 f.1 _ _ _ ?_
      (first | refine ⟨fun _ => ?_, fun n_ => absurd (show 12 ≤ nI 12 from nI_le (a := 12) (by omega) (by omega)) n_⟩ | refine ⟨fun n_ => absurd (show 12 ≤ nI 12 from nI_le (a := 12) (by omega) (by omega)) n_, fun _ => ?_⟩ | refine ⟨fun y_ => absurd y_ (show 12 ≤ nI 12 from nI_le (a := 12) (by omega) (by omega)), fun _ => ?_⟩ | refine ⟨fun _ => ?_, fun y_ => absurd y_ (show 12 ≤ nI 12 from nI_le (a := 12) (by omega) (by omega))⟩)
      exact hq g v f bg hv
    | succ q ih =>
      intro c g v hc f bg hv
      have hc2 : c < 12 := by omega
      refine T_X12_brightIn_4 f.1 _ _ _ ?_
      (first | refine ⟨fun _ => ?_, fun n_ => absurd (show ¬ 12 ≤ nI c from nI_ge (b := 12) (by omega) (by omega)) n_⟩ | refine ⟨fun n_ => absurd (show ¬ 12 ≤ nI c from nI_ge (b := 12) (by omega) (by omega)) n_, fun _ => ?_⟩ | refine ⟨fun y_ => absurd y_ (show ¬ 12 ≤ nI c from nI_ge (b := 12) (by omega) (by omega)), fun _ => ?_⟩ | refine ⟨fun _ => ?_, fun y_ => absurd y_ (show ¬ 12 ≤ nI c from nI_ge (b := 12) (by omega) (by omega))⟩)
      -- behind all
      have nx : ∀ (g1 : ah_T) (x : Bool), knF h g1 → mBa A N g1 → x = brP A N (litM A N m) m c → ((bI x = 0 → Wp mX12_brightIn Q 0 0 4 [some (.ref 82), some (.int (nI m)), some (.int (v ||| 0)), some (.int (nI c + 1)), none, none] [] g1) ∧ (¬ bI x = 0 → Wp mX12_brightIn Q 0 0 4 [some (.ref 82), some (.int (nI m)), some (.int (v ||| ((1 : Int32) <<< (nI c &&& 31)))), some (.int (nI c + 1)), none, none] [] g1)) := by
        intro g1 x f1 b1 ex
        rw [bI_0, nI_1, e0]
        refine ⟨fun z => ih (c + 1) g1 v (by omega) f1 b1 (fun i hi => (hv i hi).trans ?_), fun z => ih (c + 1) g1 _ (by omega) f1 b1 (fun i hi => ?_)⟩
        · refine ⟨fun y => ⟨by omega, y.2⟩, fun y => ⟨?_, y.2⟩⟩
          by_cases u : i = c
          · subst u
            rw [← ex, z] at y
            exact absurd y.2 (by decide)
          · have := y.1; omega
        · have zt : x = true := by cases e : x; exact absurd e z; rfl
          rw [b_or, b_1sh (by omega) hi, Bool.or_eq_true, decide_eq_true_eq, hv i hi]
          constructor
          · rintro (y | y)
            · exact ⟨by omega, y.2⟩
            · subst y; exact ⟨by omega, by rw [← ex]; exact zt⟩
          · intro y
            by_cases u : i = c
            · exact .inr u
            · exact .inl ⟨by omega, y.2⟩
      have l86 : ∀ (q2 k : Nat) (g : ah_T) (x : Bool), k + q2 = N.q → knF h g → mBa A N g → x = ((List.range N.n).any (fun l => litM A N m l && reB A (l + 1) (N.ki l) m (N.co l) c) || (List.range k).any (fun k => decide (N.pl k m ≠ 0) && reB A 0 (N.lk k) m (N.pl k m - 1) c)) → Wp mX12_brightIn Q 0 0 86 [some (.ref 82), some (.int (nI m)), some (.int v), some (.int (nI c)), some (.int (bI x)), some (.int (nI k))] [] g := by
        intro q2
        induction q2 with
        | zero =>
          intro k g x hk f1 b1 ex
          have e9 : k = N.q := by omega
          subst e9
          refine T_X12_brightIn_86 f1.1 _ _ _ _ _ ?_
          rw [b1.2.2.1.2.2.1]
          (first | refine ⟨fun _ => ?_, fun n_ => absurd (show nI N.q ≤ nI N.q from nI_le (by omega) (by omega)) n_⟩ | refine ⟨fun n_ => absurd (show nI N.q ≤ nI N.q from nI_le (by omega) (by omega)) n_, fun _ => ?_⟩ | refine ⟨fun y_ => absurd y_ (show nI N.q ≤ nI N.q from nI_le (by omega) (by omega)), fun _ => ?_⟩ | refine ⟨fun _ => ?_, fun y_ => absurd y_ (show nI N.q ≤ nI N.q from nI_le (by omega) (by omega))⟩)
          exact nx g x f1 b1 ex
        | succ q2 ih2 =>
          intro k g x hk f1 b1 ex
          have hk2 : k < N.q := by omega
          obtain ⟨a1, a2, ⟨d1, d2, d3, d4, d5, d6, d7⟩, a4, a5⟩ := b1
          have b1 : mBa A N g := ⟨a1, a2, ⟨d1, d2, d3, d4, d5, d6, d7⟩, a4, a5⟩
          obtain ⟨v1, v2⟩ := d1.2.2.2 k hk2
          have v3 := v2 m hm
          obtain ⟨t1, t2⟩ := d6 k hk2
          have c1 : (120 : Int32) * nI k + nI m = nI (120 * k + m) := by rw [n_120, nI_mul, nI_add]
          have vp : vp_in (nI (120 * k + m)) 360 := (vp_nI (by omega)).mpr (by omega)
          refine T_X12_brightIn_86 f1.1 _ _ _ _ _ ?_
          rw [d3]
          (first | refine ⟨fun _ => ?_, fun n_ => absurd (show ¬ nI N.q ≤ nI k from nI_ge (by omega) (by omega)) n_⟩ | refine ⟨fun n_ => absurd (show ¬ nI N.q ≤ nI k from nI_ge (by omega) (by omega)) n_, fun _ => ?_⟩ | refine ⟨fun y_ => absurd y_ (show ¬ nI N.q ≤ nI k from nI_ge (by omega) (by omega)), fun _ => ?_⟩ | refine ⟨fun _ => ?_, fun y_ => absurd y_ (show ¬ nI N.q ≤ nI k from nI_ge (by omega) (by omega))⟩)
          have sf : ∀ (f : Nat → Bool), (List.range (k + 1)).any f = ((List.range k).any f || f k) := fun f => by rw [List.range_succ, List.any_append, List.any_cons, List.any_nil, Bool.or_false]
          cases x with
          | true =>
            (first | refine ⟨fun _ => ?_, fun n_ => absurd (show ¬ bI true = 0 by decide) n_⟩ | refine ⟨fun n_ => absurd (show ¬ bI true = 0 by decide) n_, fun _ => ?_⟩ | refine ⟨fun y_ => absurd y_ (show ¬ bI true = 0 by decide), fun _ => ?_⟩ | refine ⟨fun _ => ?_, fun y_ => absurd y_ (show ¬ bI true = 0 by decide)⟩)
            refine nx g true f1 b1 ?_
            unfold brP
            rcases Bool.or_eq_true _ _ |>.mp ex.symm with y | y
            · rw [y]; rfl
            · obtain ⟨o, ho, z⟩ := any_t.mp y
              rw [anyT (show o < N.q by omega) z, Bool.or_true]
          | false =>
            (first | refine ⟨fun _ => ?_, fun n_ => absurd (show bI false = 0 from rfl) n_⟩ | refine ⟨fun n_ => absurd (show bI false = 0 from rfl) n_, fun _ => ?_⟩ | refine ⟨fun y_ => absurd y_ (show bI false = 0 from rfl), fun _ => ?_⟩ | refine ⟨fun _ => ?_, fun y_ => absurd y_ (show bI false = 0 from rfl)⟩)
            rw [c1, nI_1, nI_clamp (show 120 * k + m < 2 ^ 31 by omega), nI_clamp (show k < 2 ^ 31 by omega), t2 m hm, t1, sh_n f1.1 107 360 (by decide) (by decide) rfl, sh_n f1.1 108 3 (by decide) (by decide) rfl]
            refine ⟨vp, fun z => ?_, fun z => ⟨vp, (vp_nI (by omega)).mpr (by omega), ?_⟩⟩
            · have p0 : N.pl k m = 0 := by
                rcases Nat.eq_zero_or_pos (N.pl k m) with w | w
                · exact w
                · rw [show N.pl k m = (N.pl k m - 1) + 1 by omega, nO_s] at z
                  exact absurd z (nI_m1 (by omega))
              refine ih2 (k + 1) g false (by omega) f1 b1 ?_
              rw [sf, p0, ← Bool.or_assoc, ← ex]
              rfl
            · have p0 : N.pl k m ≠ 0 := fun y => z (by rw [y]; rfl)
              obtain ⟨p, ep⟩ : ∃ p, N.pl k m = p + 1 := ⟨N.pl k m - 1, by omega⟩
              have st : ∀ (g2 : ah_T) (y : Bool), knF h g2 → mBa A N g2 → y = reB A 0 (N.lk k) m p c → Wp mX12_brightIn Q 0 0 86 [some (.ref 82), some (.int (nI m)), some (.int v), some (.int (nI c)), some (.int (bI y)), some (.int (nI (k + 1)))] [] g2 := by
                intro g2 y f2 b2 ey
                refine ih2 (k + 1) g2 y (by omega) f2 b2 ?_
                rw [sf, ← Bool.or_assoc, ← ex, Bool.false_or, ep, decide_eq_true (Nat.succ_ne_zero p), Bool.true_and, ey]
                rfl
              rw [ep, nO_s]
              refine m_isReached f1.1 b1 (l := 0) rfl rfl rfl rfl rfl (by omega) (by omega) v1 hc2 hm (fun g2 f2 b2 => ⟨_, rfl, f2.1, ?_⟩)
              rw [bI_0]
              refine ⟨fun y => st g2 false (knF_t f1 f2) b2 y.symm, fun y => st g2 true (knF_t f1 f2) b2 ?_⟩
              cases e : reB A 0 (N.lk k) m p c
              · exact absurd e y
              · rfl
      have l16 : ∀ (q2 l : Nat) (g : ah_T) (x : Bool), l + q2 = N.n → knF h g → mBa A N g → x = (List.range l).any (fun l => litM A N m l && reB A (l + 1) (N.ki l) m (N.co l) c) → Wp mX12_brightIn Q 0 0 16 [some (.ref 82), some (.int (nI m)), some (.int v), some (.int (nI c)), some (.int (bI x)), some (.int (nI l))] [] g := by
        intro q2
        induction q2 with
        | zero =>
          intro l g x hl f1 b1 ex
          have e9 : l = N.n := by omega
          subst e9
          refine T_X12_brightIn_16 f1.1 _ _ _ _ _ ?_
          rw [b1.2.2.1.2.1]
          (first | refine ⟨fun _ => ?_, fun n_ => absurd (show nI N.n ≤ nI N.n from nI_le (by omega) (by omega)) n_⟩ | refine ⟨fun n_ => absurd (show nI N.n ≤ nI N.n from nI_le (by omega) (by omega)) n_, fun _ => ?_⟩ | refine ⟨fun y_ => absurd y_ (show nI N.n ≤ nI N.n from nI_le (by omega) (by omega)), fun _ => ?_⟩ | refine ⟨fun _ => ?_, fun y_ => absurd y_ (show nI N.n ≤ nI N.n from nI_le (by omega) (by omega))⟩)
          exact l86 N.q 0 g x (by omega) f1 b1 (by rw [ex]; simp)
        | succ q2 ih2 =>
          intro l g x hl f1 b1 ex
          have hl2 : l < N.n := by omega
          obtain ⟨a1, a2, ⟨d1, d2, d3, d4, d5, d6, d7⟩, a4, a5⟩ := b1
          have b1 : mBa A N g := ⟨a1, a2, ⟨d1, d2, d3, d4, d5, d6, d7⟩, a4, a5⟩
          obtain ⟨v1, v2⟩ := d1.2.1 l hl2
          have c1 : (10 : Int32) * nI m + nI l = nI (10 * m + l) := by rw [n_10, nI_mul, nI_add]
          have sf : ∀ (f : Nat → Bool), (List.range (l + 1)).any f = ((List.range l).any f || f l) := fun f => by rw [List.range_succ, List.any_append, List.any_cons, List.any_nil, Bool.or_false]
          refine T_X12_brightIn_16 f1.1 _ _ _ _ _ ?_
          rw [d2]
          (first | refine ⟨fun _ => ?_, fun n_ => absurd (show ¬ nI N.n ≤ nI l from nI_ge (by omega) (by omega)) n_⟩ | refine ⟨fun n_ => absurd (show ¬ nI N.n ≤ nI l from nI_ge (by omega) (by omega)) n_, fun _ => ?_⟩ | refine ⟨fun y_ => absurd y_ (show ¬ nI N.n ≤ nI l from nI_ge (by omega) (by omega)), fun _ => ?_⟩ | refine ⟨fun _ => ?_, fun y_ => absurd y_ (show ¬ nI N.n ≤ nI l from nI_ge (by omega) (by omega))⟩)
          cases x with
          | true =>
            (first | refine ⟨fun _ => ?_, fun n_ => absurd (show ¬ bI true = 0 by decide) n_⟩ | refine ⟨fun n_ => absurd (show ¬ bI true = 0 by decide) n_, fun _ => ?_⟩ | refine ⟨fun y_ => absurd y_ (show ¬ bI true = 0 by decide), fun _ => ?_⟩ | refine ⟨fun _ => ?_, fun y_ => absurd y_ (show ¬ bI true = 0 by decide)⟩)
            obtain ⟨o, ho, z⟩ := any_t.mp ex.symm
            refine l86 N.q 0 g true (by omega) f1 b1 ?_
            rw [anyT (show o < N.n by omega) z]; rfl
          | false =>
            (first | refine ⟨fun _ => ?_, fun n_ => absurd (show bI false = 0 from rfl) n_⟩ | refine ⟨fun n_ => absurd (show bI false = 0 from rfl) n_, fun _ => ?_⟩ | refine ⟨fun y_ => absurd y_ (show bI false = 0 from rfl), fun _ => ?_⟩ | refine ⟨fun _ => ?_, fun y_ => absurd y_ (show bI false = 0 from rfl)⟩)
            rw [c1, nI_1, nI_clamp (show 10 * m + l < 2 ^ 31 by omega), nI_clamp (show l < 2 ^ 31 by omega), ko f1 l hl2, (d5 l hl2).1, (d5 l hl2).2, sh_n f1.1 109 1200 (by decide) (by decide) rfl, sh_n f1.1 100 10 (by decide) (by decide) rfl, sh_n f1.1 101 10 (by decide) (by decide) rfl, bI_0]
            have st : ∀ (g2 : ah_T) (y : Bool), knF h g2 → mBa A N g2 → y = (litM A N m l && reB A (l + 1) (N.ki l) m (N.co l) c) → Wp mX12_brightIn Q 0 0 16 [some (.ref 82), some (.int (nI m)), some (.int v), some (.int (nI c)), some (.int (bI y)), some (.int (nI (l + 1)))] [] g2 := by
              intro g2 y f2 b2 ey
              refine ih2 (l + 1) g2 y (by omega) f2 b2 ?_
              rw [sf, ← ex, Bool.false_or, ey]
            refine ⟨(vp_nI (by omega)).mpr (by omega), fun z => st g false f1 b1 (by rw [z]; rfl), fun z => ⟨(vp_nI (by omega)).mpr (by omega), (vp_nI (by omega)).mpr (by omega), ?_⟩⟩
            have zt : litM A N m l = true := by cases e : litM A N m l; exact absurd e z; rfl
            refine m_isReached f1.1 b1 (l := l + 1) (nO_s l).symm rfl rfl rfl rfl (by omega) v1 v2 hc2 hm (fun g2 f2 b2 => ⟨_, rfl, f2.1, ?_⟩)
            rw [bI_0]
            refine ⟨fun y => st g2 false (knF_t f1 f2) b2 (by rw [zt, y]; rfl), fun y => st g2 true (knF_t f1 f2) b2 ?_⟩
            rw [zt]
            cases e : reB A (l + 1) (N.ki l) m (N.co l) c
            · exact absurd e y
            · rfl
      exact l16 N.n 0 g false (by omega) f bg (by simp)
  exact T_X12_brightIn hs _ (l4 12 0 h 0 (by omega) (knF_r hs) b (fun i hi => by rw [b_0]; exact ⟨fun y => absurd y (by decide), fun y => absurd y.1 (by omega)⟩))
end LT
