/-! ===== shutters: the class tries a choice ===== -/
def pfF (h g : ah_T) : Prop := Sh g ∧ ah_x g = ah_x h ∧ ∀ a, a ≠ 80 → a ≠ 81 → eqc h g a
/-- shuttered, or chosen and looked at already -/
abbrev swS' (A : Nat → Nat) (S w : Nat) : Nat → Prop := fun v => A (3 * v + 2) = 1 ∨ (v < w ∧ S.testBit v = true)
section IP
variable {A : Nat → Nat} {h g u : ah_T} {S w m l o k v a b n g0 x : Nat} {p : Nat → Bool}
theorem and1 (y : Int32) : (y &&& 1) = 0 ∨ (y &&& 1) = 1 := by
  have b1 : ∀ i, i < 32 → bt 1 i = decide (i = 0) := by decide +kernel
  cases e : bt y 0 with
  | false =>
    left
    refine b_ext fun i hi => ?_
    rw [b_and, b1 i hi, b_0]
    by_cases z : i = 0
    · rw [z, e]; rfl
    · rw [decide_eq_false z, Bool.and_false]
  | true =>
    right
    refine b_ext fun i hi => ?_
    rw [b_and, b1 i hi]
    by_cases z : i = 0
    · rw [z, e]; rfl
    · rw [decide_eq_false z, Bool.and_false]
theorem z_shl (hk : k < 32) : (0 : Int32) <<< (nI k &&& 31) = 0 := by
  refine b_ext fun i hi => ?_
  rw [b_shl k hk _ hi, b_0, b_0, Bool.and_false]
theorem or_p2 (ha : a < 2 ^ k) : a ||| 2 ^ k = a + 2 ^ k := by
  have := Nat.two_pow_add_eq_or_of_lt ha 1
  rw [Nat.mul_one] at this
  rw [Nat.or_comm, ← this, Nat.add_comm]
theorem c_waysOf {Q : Option Value → ah_T → Prop} {x0 x1 : Int32} (hs : Sh h) (e0 : x0 = nI x) (hp : ∀ i, i < 20 → bt x1 i = p i) (hq : Q (some (.int (nI (wN p x 20)))) h) : Mt mX4_waysOf [.int x0, .int x1] h Q := by
  subst e0
  refine T_X4_waysOf hs _ _ ?_
  have lp : ∀ (q k : Nat), k + q = 20 → Wp mX4_waysOf Q 0 0 7 [some (.int (nI x)), some (.int x1), some (.int (nI (wN p x k))), some (.int (nI (cb p k))), some (.int (nI k))] [] h := by
    intro q
    induction q with
    | zero =>
      intro k hk
      have e9 : k = 20 := by omega
      subst e9
      refine T_X4_waysOf_7 hs _ _ _ _ _ ?_
      (first | refine ⟨fun _ => ?_, fun n_ => absurd (show (20 : Int32) ≤ nI 20 by decide) n_⟩ | refine ⟨fun n_ => absurd (show (20 : Int32) ≤ nI 20 by decide) n_, fun _ => ?_⟩ | refine ⟨fun y_ => absurd y_ (show (20 : Int32) ≤ nI 20 by decide), fun _ => ?_⟩ | refine ⟨fun _ => ?_, fun y_ => absurd y_ (show (20 : Int32) ≤ nI 20 by decide)⟩)
      exact hq
    | succ q ih =>
      intro k hk
      have cl := cb_le p k
      refine T_X4_waysOf_7 hs _ _ _ _ _ ?_
      (first | refine ⟨fun _ => ?_, fun n_ => absurd (show ¬ (20 : Int32) ≤ nI k from nI_ge (b := 20) (by omega) (by omega)) n_⟩ | refine ⟨fun n_ => absurd (show ¬ (20 : Int32) ≤ nI k from nI_ge (b := 20) (by omega) (by omega)) n_, fun _ => ?_⟩ | refine ⟨fun y_ => absurd y_ (show ¬ (20 : Int32) ≤ nI k from nI_ge (b := 20) (by omega) (by omega)), fun _ => ?_⟩ | refine ⟨fun _ => ?_, fun y_ => absurd y_ (show ¬ (20 : Int32) ≤ nI k from nI_ge (b := 20) (by omega) (by omega))⟩)
      rw [b_bit _ _ (show k < 32 by omega), hp k (by omega), nI_1 k]
      have ws : wN p x (k + 1) = wN p x k + (if p k = true ∧ x.testBit (cb p k) = true then 2 ^ k else 0) := rfl
      refine ⟨fun z => ?_, fun z => ?_⟩
      · have := ih (k + 1) (by omega)
        rw [ws, if_neg (fun y => by rw [z] at y; exact absurd y.1 (by decide)), Nat.add_zero, cb_t0 z] at this
        exact this
      · have pz : p k = true := by
          cases e : p k
          · exact absurd e z
          · rfl
        have := ih (k + 1) (by omega)
        rw [ws, cb_t1 pz] at this
        rw [nI_1]
        rcases and1 (nI x >>> (nI (cb p k) &&& 31)) with y | y
        · rw [y, z_shl (show k < 32 by omega)]
          have t : x.testBit (cb p k) = false := by rw [← nb (show cb p k < 32 by omega)]; exact (b_bit _ _ (by omega)).mp y
          rw [if_neg (fun w => by rw [t] at w; exact absurd w.2 (by decide)), Nat.add_zero] at this
          rw [show (0 : Int32) = nI 0 from rfl, nI_or, Nat.or_zero]
          exact this
        · rw [y, nI_1sh (show k < 32 by omega), nI_or, or_p2 (wN_lt p x k)]
          have t : x.testBit (cb p k) = true := by
            cases e : x.testBit (cb p k)
            · rw [← nb (show cb p k < 32 by omega)] at e
              rw [(b_bit _ _ (by omega)).mpr e] at y
              exact absurd y (by decide)
            · rfl
          rw [if_pos ⟨pz, t⟩] at this
          exact this
  exact lp 20 0 rfl
theorem c_wayG {Q : Option Value → ah_T → Prop} {x1 x2 : Int32} (hs : Sh h) (c : cWs A h) (hw : w < A 245) (hk : k < 3) (e1 : x1 = nI w) (e2 : x2 = nI k) (hq : Q (some (.int (nI (A (3 * w + k))))) h) : Mt mX7_get [.ref 2, .int x1, .int x2] h Q := by
  obtain ⟨⟨c1, c2, c3, c4⟩, c5⟩ := c
  refine c_getW hs (.inl rfl) e1 e2 c1 c2 (by show 3 * A 245 ≤ 60; omega) hw hk ?_
  obtain ⟨d1, d2, d3, d4⟩ := c4 w hw
  have d5 := (c5 w hw).1
  have e : ah_i h (2 + 1) (3 * w + k) = nI (A (3 * w + k)) := by
    rcases (show k = 0 ∨ k = 1 ∨ k = 2 by omega) with rfl | rfl | rfl
    · exact d1
    · exact d2
    · exact d5
  rw [e]
  exact hq
theorem nbO_del {E E' : Nat → Nat → Prop} {lo hi : Nat} (q : nbO E h a) (h1 : lo < hi) (h2 : hi < 12) (e : ∀ c i, E' c i ↔ (E c i ∧ ¬ ((c = lo ∧ i = hi) ∨ (c = hi ∧ i = lo)))) : nbO E' (ah_si (ah_si h a lo (ah_i h a lo &&& (((1 : Int32) <<< (nI hi &&& 31)) ^^^ (-1)))) a hi (ah_i h a hi &&& (((1 : Int32) <<< (nI lo &&& 31)) ^^^ (-1)))) a := by
  intro c hc i hi2
  rw [e c i, ah_i_si, ah_i_si]
  by_cases c1 : c = hi
  · subst c1
    rw [if_pos ⟨rfl, rfl⟩, b_and, b_not _ hi2, b_1sh (by omega) hi2, Bool.and_eq_true, q c hc i hi2, Bool.not_eq_true', decide_eq_false_iff_not]
    exact and_congr_right fun _ => ⟨fun z y => by rcases y with y | y <;> omega, fun z y => z (.inr ⟨rfl, y⟩)⟩
  · rw [if_neg (fun z => c1 z.2)]
    by_cases c2 : c = lo
    · subst c2
      rw [if_pos ⟨rfl, rfl⟩, b_and, b_not _ hi2, b_1sh (by omega) hi2, Bool.and_eq_true, q c hc i hi2, Bool.not_eq_true', decide_eq_false_iff_not]
      exact and_congr_right fun _ => ⟨fun z y => by rcases y with y | y <;> omega, fun z y => z (.inl ⟨rfl, y⟩)⟩
    · rw [if_neg (fun z => c2 z.2), q c hc i hi2]
      exact ⟨fun z => ⟨z, fun y => by rcases y with y | y <;> omega⟩, fun z => z.1⟩
theorem Ew_sw {s s' : Nat → Prop} (e : ∀ v, v < A 245 → (s v ↔ s' v)) (c i : Nat) : Ew A s c i ↔ Ew A s' c i := by
  constructor
  · rintro ⟨v, h1, h2, h3⟩
    exact ⟨v, h1, fun y => h2 ((e v h1).mpr y), h3⟩
  · rintro ⟨v, h1, h2, h3⟩
    exact ⟨v, h1, fun y => h2 ((e v h1).mp y), h3⟩
theorem Ew_dl (wf : wfW A) (hw : w < A 245) (t : S.testBit w = true) (c i : Nat) : Ew A (swS' A S (w + 1)) c i ↔ (Ew A (swS' A S w) c i ∧ ¬ ((c = A (3 * w) ∧ i = A (3 * w + 1)) ∨ (c = A (3 * w + 1) ∧ i = A (3 * w)))) := by
  obtain ⟨_, w2, w3⟩ := wf
  have uq : ∀ v, v < A 245 → A (3 * v) = A (3 * w) → A (3 * v + 1) = A (3 * w + 1) → v = w := by
    intro v hv e1 e2
    rcases Nat.lt_trichotomy v w with z | z | z
    · exact absurd ⟨e1.symm, e2.symm⟩ (w3 w v hw z)
    · exact z
    · exact absurd ⟨e1, e2⟩ (w3 v w hv z)
  have ww := w2 w hw
  constructor
  · rintro ⟨v, h1, h2, h3⟩
    have vv := w2 v h1
    refine ⟨⟨v, h1, fun y => h2 (y.imp id (fun z => ⟨by omega, z.2⟩)), h3⟩, fun y => ?_⟩
    have e : v = w := by
      rcases y with ⟨y1, y2⟩ | ⟨y1, y2⟩ <;> rcases h3 with ⟨z1, z2⟩ | ⟨z1, z2⟩
      · exact uq v h1 (by omega) (by omega)
      · omega
      · omega
      · exact uq v h1 (by omega) (by omega)
    subst e
    exact h2 (.inr ⟨by omega, t⟩)
  · rintro ⟨⟨v, h1, h2, h3⟩, h4⟩
    refine ⟨v, h1, fun y => ?_, h3⟩
    rcases y with y | ⟨y1, y2⟩
    · exact h2 (.inl y)
    · by_cases z : v = w
      · subst z
        refine h4 ?_
        rcases h3 with ⟨z1, z2⟩ | ⟨z1, z2⟩
        · exact .inl ⟨z1.symm, z2.symm⟩
        · exact .inr ⟨z2.symm, z1.symm⟩
      · exact h2 (.inr ⟨by omega, y2⟩)
theorem pfF_t {h1 : ah_T} (p : pfF h g) (q : pfF g h1) : pfF h h1 := ⟨q.1, by rw [q.2.1, p.2.1], fun a n1 n2 => eqc_trans (p.2.2 a n1 n2) (q.2.2 a n1 n2)⟩
theorem pfF_s {a j : Nat} {y : Int32} (o : a = 80 ∨ a = 81) (p : pfF h g) : pfF h (ah_si g a j y) := ⟨sh_si p.1, by rw [ah_x_si, p.2.1], fun b n1 n2 => eqc_si (p.2.2 b n1 n2) (by omega)⟩
theorem grF_pf (f : pfF h g) : grF P7 h g := ⟨f.1, f.2.1, fun a _ n2 => f.2.2 a (fun y => n2 (.inr (.inl y))) (fun y => n2 (.inr (.inr y))), wB_of (f.2.2 27 (by decide) (by decide)).1⟩
theorem cor_pf (f : pfF h g) (c : cor g0 A h) : cor g0 A g := cor_g (fun a ha => f.2.2 a (by omega) (by omega)) (.inr trivial) f.1 f.2.1 c
/-- a quarrel at a sight with these shutters -/
def bdS (A : Nat → Nat) (S : Nat) (h : ah_T) (a b : Nat) : Prop := bt (ah_i h 79 (12 * a + b)) (sgN (aS A S) a b) = true
theorem c_isPeaceful {Q : Option Value → ah_T → Prop} {x1 : Int32} (hs : Sh h) (c : cor g0 A h) (wf : wfW A) (e1 : x1 = nI S) (hS : S < 2 ^ 20) (hq : ∀ g v, pfF h g → (¬ v = 0 ↔ ∀ a b, a < 12 → b < 12 → ¬ bdS A S h a b) → Q (some (.int v)) g) : Mt mX4_isPeaceful [.ref 74, .int x1] h Q := by
  subst e1
  have h20 := wf.1
  have cw := c.2.2.2.2
  have n31 := sh_n hs 31 12 (by decide) (by decide) rfl
  have n80 : ∀ {u : ah_T}, Sh u → ah_n u 80 = 12 := fun hs => sh_n hs 80 12 (by decide) (by decide) rfl
  have n81 : ∀ {u : ah_T}, Sh u → ah_n u 81 = 12 := fun hs => sh_n hs 81 12 (by decide) (by decide) rfl
  have n79 : ∀ {u : ah_T}, Sh u → ah_n u 79 = 144 := fun hs => sh_n hs 79 144 (by decide) (by decide) rfl
  refine T_X4_isPeaceful hs _ ⟨by rw [n31]; decide, by rw [n80 hs]; decide, ?_⟩
  rintro h3 e3
  have s3 : Sh h3 := by rw [e3]; exact sh_sa hs
  have f3 : pfF h h3 := ⟨s3, by rw [e3]; rfl, fun a n1 _ => by rw [e3]; exact eqc_sa eqc_rfl n1⟩
  have i3 : nbO (Ew A (swS' A S 0)) h3 80 := by
    have st := c.2.2.2.1.2.1
    intro cc hc i hi
    have : ah_i h3 80 cc = ah_i h 31 cc := by
      rw [e3, ah_i_sa, if_pos rfl]
      unfold va_cpy
      rw [show Int32.toNatClampNeg 0 = 0 from rfl, show Int32.toNatClampNeg 12 = 12 from rfl, if_pos (by omega), show 0 + (cc - 0) = cc by omega]
    rw [this, st cc hc i hi]
    exact Ew_sw (fun v _ => ⟨fun y => .inl y, fun y => y.resolve_right (fun z => absurd z.1 (Nat.not_lt_zero _))⟩) cc i
  obtain ⟨E, eE⟩ : ∃ E, E = Ew (aS A S) (shS (aS A S)) := ⟨_, rfl⟩
  have E12 : ∀ x y, E x y → x < 12 ∧ y < 12 := fun x y e => by
    rw [eE, Ew_aS h20] at e
    obtain ⟨v, h1, _, h4⟩ := e
    have := wf.2.1 v h1
    rcases h4 with ⟨z1, z2⟩ | ⟨z1, z2⟩ <;> omega
  have Ee : ∀ cc i, Ew A (swS' A S (A 245)) cc i ↔ E cc i := fun cc i => by
    rw [eE, Ew_aS h20]
    exact Ew_sw (s' := fun v => A (3 * v + 2) = 1 ∨ S.testBit v = true) (fun v hv => ⟨fun y => y.imp id (fun z => z.2), fun y => y.imp id (fun z => ⟨hv, z⟩)⟩) cc i
  have bad_iff : ∀ {u : ah_T} {a b : Nat}, pfF h u → (bdS A S h a b ↔ bt (ah_i u 79 (12 * a + b)) (sgN (aS A S) a b) = true) := fun f => by
    unfold bdS
    rw [(f.2.2 79 (by decide) (by decide)).1]
  -- corner by corner
  have l116 : ∀ (q a : Nat) (u : ah_T), a + q = 12 → pfF h u → nbO E u 80 → (∀ a' b, a' < a → b < 12 → ¬ bdS A S h a' b) → Wp mX4_isPeaceful Q 0 0 116 [some (.ref 74), none, some (.int (nI a)), none, none, none] [] u := by
    intro q
    induction q with
    | zero =>
      intro a u ha fu ou nb'
      refine T_X4_isPeaceful_116 fu.1 _ ?_
      (first | refine ⟨fun _ => ?_, fun n_ => absurd (show (12 : Int32) ≤ nI a from nI_le (a := 12) (by omega) (by omega)) n_⟩ | refine ⟨fun n_ => absurd (show (12 : Int32) ≤ nI a from nI_le (a := 12) (by omega) (by omega)) n_, fun _ => ?_⟩ | refine ⟨fun y_ => absurd y_ (show (12 : Int32) ≤ nI a from nI_le (a := 12) (by omega) (by omega)), fun _ => ?_⟩ | refine ⟨fun _ => ?_, fun y_ => absurd y_ (show (12 : Int32) ≤ nI a from nI_le (a := 12) (by omega) (by omega))⟩)
      exact hq u 1 fu ⟨fun _ a' b h1 h2 => nb' a' b (by omega) h2, fun _ => by decide⟩
    | succ q ih =>
      intro a u ha fu ou nb'
      have ha2 : a < 12 := by omega
      refine T_X4_isPeaceful_116 fu.1 _ ?_
      (first | refine ⟨fun _ => ?_, fun n_ => absurd (show ¬ (12 : Int32) ≤ nI a from nI_ge (b := 12) (by omega) (by omega)) n_⟩ | refine ⟨fun n_ => absurd (show ¬ (12 : Int32) ≤ nI a from nI_ge (b := 12) (by omega) (by omega)) n_, fun _ => ?_⟩ | refine ⟨fun y_ => absurd y_ (show ¬ (12 : Int32) ≤ nI a from nI_ge (b := 12) (by omega) (by omega)), fun _ => ?_⟩ | refine ⟨fun _ => ?_, fun y_ => absurd y_ (show ¬ (12 : Int32) ≤ nI a from nI_ge (b := 12) (by omega) (by omega))⟩)
      have l127 : ∀ (q2 b : Nat) (v : ah_T) (x3 : Int32), b + q2 = 12 → pfF h v → nbO E v 80 → (x3 = 0 ∨ ∀ b', b' < 12 → dst E a b' (ah_i v 81 b')) → (∀ b', b' < b → ¬ bdS A S h a b') → Wp mX4_isPeaceful Q 0 0 127 [some (.ref 74), none, some (.int (nI a)), some (.int x3), some (.int (nI b)), none] [] v := by
        intro q2
        induction q2 with
        | zero =>
          intro b v x3 hb fv ov dv nb2
          refine T_X4_isPeaceful_127 fv.1 _ _ _ ?_
          (first | refine ⟨fun _ => ?_, fun n_ => absurd (show (12 : Int32) ≤ nI b from nI_le (a := 12) (by omega) (by omega)) n_⟩ | refine ⟨fun n_ => absurd (show (12 : Int32) ≤ nI b from nI_le (a := 12) (by omega) (by omega)) n_, fun _ => ?_⟩ | refine ⟨fun y_ => absurd y_ (show (12 : Int32) ≤ nI b from nI_le (a := 12) (by omega) (by omega)), fun _ => ?_⟩ | refine ⟨fun _ => ?_, fun y_ => absurd y_ (show (12 : Int32) ≤ nI b from nI_le (a := 12) (by omega) (by omega))⟩)
          rw [nI_1]
          refine ih (a + 1) v (by omega) fv ov (fun a' b' h1 h2 => ?_)
          by_cases z : a' = a
          · subst z; exact nb2 b' (by omega)
          · exact nb' a' b' (by omega) h2
        | succ q2 ih2 =>
          intro b v x3 hb fv ov dv nb2
          have hb2 : b < 12 := by omega
          have c1 : nI a * 12 + nI b = nI (12 * a + b) := by rw [show (12 : Int32) = nI 12 from rfl, nI_mul, nI_add, Nat.mul_comm]
          have vb : vp_in (nI b) 12 := (vp_nI (by omega)).mpr (by omega)
          -- a sight looked up
          have see : ∀ (w : ah_T), pfF h w → nbO E w 80 → (∀ b', b' < 12 → dst E a b' (ah_i w 81 b')) → ∀ x3', ¬ x3' = 0 → ((((ah_i v 79 (12 * a + b) >>> ((ah_i w 81 b + 1) &&& 31)) &&& 1) = 0 → Wp mX4_isPeaceful Q 0 0 127 [some (.ref 74), none, some (.int (nI a)), some (.int x3'), some (.int (nI (b + 1))), none] [] w) ∧ (¬ ((ah_i v 79 (12 * a + b) >>> ((ah_i w 81 b + 1) &&& 31)) &&& 1) = 0 → Q (some (.int 0)) w)) := by
            intro w fw ow dw x3' _
            have dd := dw b hb2
            rw [eE] at dd
            obtain ⟨d1, d2, _⟩ := sgN_d dd
            rw [d1, nO_1, b_bit _ _ (show sgN (aS A S) a b < 32 by omega)]
            refine ⟨fun y => ?_, fun y => ?_⟩
            · refine ih2 (b + 1) w x3' (by omega) fw ow (.inr dw) (fun b' hb' => ?_)
              by_cases z : b' = b
              · subst z
                rw [bad_iff fv, y]
                decide
              · exact nb2 b' (by omega)
            · refine hq w 0 fw ⟨fun z => absurd rfl z, fun z => absurd ?_ (z a b ha2 hb2)⟩
              rw [bad_iff fv]
              cases e : bt (ah_i v 79 (12 * a + b)) (sgN (aS A S) a b)
              · exact absurd e y
              · rfl
          refine T_X4_isPeaceful_127 fv.1 _ _ _ ?_
          (first | refine ⟨fun _ => ?_, fun n_ => absurd (show ¬ (12 : Int32) ≤ nI b from nI_ge (b := 12) (by omega) (by omega)) n_⟩ | refine ⟨fun n_ => absurd (show ¬ (12 : Int32) ≤ nI b from nI_ge (b := 12) (by omega) (by omega)) n_, fun _ => ?_⟩ | refine ⟨fun y_ => absurd y_ (show ¬ (12 : Int32) ≤ nI b from nI_ge (b := 12) (by omega) (by omega)), fun _ => ?_⟩ | refine ⟨fun _ => ?_, fun y_ => absurd y_ (show ¬ (12 : Int32) ≤ nI b from nI_ge (b := 12) (by omega) (by omega))⟩)
          rw [c1, nI_1 b, nI_clamp (show 12 * a + b < 2 ^ 31 by omega), nI_clamp (show b < 2 ^ 31 by omega), n79 fv.1]
          refine ⟨(vp_nI (by omega)).mpr (by omega), fun z => ⟨fun y => ?_, fun y => ?_⟩, fun z => ?_⟩
          · rw [n81 fv.1]
            exact ⟨vb, see v fv ov (dv.resolve_left y) x3 y⟩
          · refine c_spread (E := E) (a0 := 80) (a2 := 81) (st := 0) E12 (by decide) fv.1 (sh_k fv.1 80 14 (by decide) rfl) (sh_k fv.1 81 14 (by decide) rfl) (n80 fv.1) (by rw [n81 fv.1]; decide) (by rw [n81 fv.1]; decide) ha2 ov rfl rfl (fun w r dw => ⟨rfl, r.1, ?_⟩)
            rw [n81 r.1]
            have fw : pfF h w := pfF_t fv ⟨r.1, r.2.1, fun a _ n2 => r.2.2.1 a n2⟩
            refine ⟨vb, see w fw (fun cc hc i hi => by rw [(r.2.2.1 80 (by decide)).1]; exact ov cc hc i hi) (fun b' hb' => by have := dw b' hb'; rw [Nat.zero_add] at this; exact this) 1 (by decide)⟩
          · refine ih2 (b + 1) v x3 (by omega) fv ov dv (fun b' hb' => ?_)
            by_cases z1 : b' = b
            · subst z1
              rw [bad_iff fv, z, b_0]
              decide
            · exact nb2 b' (by omega)
      exact l127 12 0 u 0 rfl fu ou (.inl rfl) (fun b' hb' => absurd hb' (Nat.not_lt_zero _))
  -- way by way
  have l20 : ∀ (q w : Nat) (u : ah_T), w + q = A 245 → pfF h u → nbO (Ew A (swS' A S w)) u 80 → Wp mX4_isPeaceful Q 0 0 20 [some (.ref 74), some (.int (nI S)), some (.int (nI w)), none, none, none] [] u := by
    intro q
    induction q with
    | zero =>
      intro w u hw fu ou
      have e9 : w = A 245 := by omega
      refine T_X4_isPeaceful_20 fu.1 _ _ ?_
      rw [show ah_i u 2 3 = nI (A 245) by rw [(fu.2.2 2 (by decide) (by decide)).1]; exact cw.1.2.1]
      (first | refine ⟨fun _ => ?_, fun n_ => absurd (show nI (A 245) ≤ nI w from nI_le (by omega) (by omega)) n_⟩ | refine ⟨fun n_ => absurd (show nI (A 245) ≤ nI w from nI_le (by omega) (by omega)) n_, fun _ => ?_⟩ | refine ⟨fun y_ => absurd y_ (show nI (A 245) ≤ nI w from nI_le (by omega) (by omega)), fun _ => ?_⟩ | refine ⟨fun _ => ?_, fun y_ => absurd y_ (show nI (A 245) ≤ nI w from nI_le (by omega) (by omega))⟩)
      rw [e9] at ou
      exact l116 12 0 u rfl fu (nbO_mono ou Ee) (fun a' b h1 => absurd h1 (Nat.not_lt_zero _))
    | succ q ih =>
      intro w u hw fu ou
      have hw2 : w < A 245 := by omega
      refine T_X4_isPeaceful_20 fu.1 _ _ ?_
      rw [show ah_i u 2 3 = nI (A 245) by rw [(fu.2.2 2 (by decide) (by decide)).1]; exact cw.1.2.1]
      (first | refine ⟨fun _ => ?_, fun n_ => absurd (show ¬ nI (A 245) ≤ nI w from nI_ge (by omega) (by omega)) n_⟩ | refine ⟨fun n_ => absurd (show ¬ nI (A 245) ≤ nI w from nI_ge (by omega) (by omega)) n_, fun _ => ?_⟩ | refine ⟨fun y_ => absurd y_ (show ¬ nI (A 245) ≤ nI w from nI_ge (by omega) (by omega)), fun _ => ?_⟩ | refine ⟨fun _ => ?_, fun y_ => absurd y_ (show ¬ nI (A 245) ≤ nI w from nI_ge (by omega) (by omega))⟩)
      rw [nI_1 w, b_bit _ _ (show w < 32 by omega), nb (show w < 32 by omega)]
      refine ⟨fun z => ?_, fun _ => ⟨fun z => ?_, fun z => ?_⟩⟩
      · refine l116 12 0 u rfl fu (nbO_mono ou (fun cc i => (Ew_sw (fun v hv => ⟨fun y => y.imp id (fun t => ⟨hv, t.2⟩), fun y => y.imp id (fun t => ⟨?_, t.2⟩)⟩) cc i).trans (Ee cc i))) (fun a' b h1 => absurd h1 (Nat.not_lt_zero _))
        rcases Nat.lt_or_ge v w with r | r
        · exact r
        · have e : bt (nI S >>> (nI w &&& 31)) (v - w) = bt 0 (v - w) := by rw [z]
          rw [b_sshr w (by omega) _ (by omega), if_pos (by omega), show w + (v - w) = v by omega, nb (by omega), t.2, b_0] at e
          exact absurd e (by decide)
      · have t : S.testBit w = true := by
          cases e : S.testBit w
          · exact absurd e z
          · rfl
        have ww := wf.2.1 w hw2
        have cu : cWs A u := cWs_fr (fu.2.2 2 (by decide) (by decide)) (fu.2.2 3 (by decide) (by decide)) cw
        refine c_wayG fu.1 cu hw2 (k := 0) (by omega) rfl rfl ⟨_, rfl, fu.1, ?_⟩
        refine c_wayG fu.1 cu hw2 (k := 1) (by omega) rfl rfl ⟨_, rfl, fu.1, ?_⟩
        rw [Nat.add_zero, n80 fu.1, nI_clamp (show A (3 * w) < 2 ^ 31 by omega), nI_clamp (show A (3 * w + 1) < 2 ^ 31 by omega)]
        have v1 : vp_in (nI (A (3 * w))) 12 := (vp_nI (by omega)).mpr (by omega)
        have v2 : vp_in (nI (A (3 * w + 1))) 12 := (vp_nI (by omega)).mpr (by omega)
        refine ⟨v1, v1, ?_⟩
        rintro h17 rfl
        rw [n80 (sh_si fu.1)]
        refine ⟨v2, v2, ?_⟩
        rintro h22 rfl
        rw [ah_i_sn (a := 80) (b := 80) (j := A (3 * w)) (k := A (3 * w + 1)) (fun y => by omega)]
        exact ih (w + 1) _ (by omega) (pfF_s (by omega) (pfF_s (by omega) fu)) (nbO_del ou ww.1 ww.2.1 (Ew_dl wf hw2 t))
      · refine ih (w + 1) u (by omega) fu (nbO_mono ou (Ew_sw (fun v hv => ⟨fun y => y.imp id (fun t => ⟨by omega, t.2⟩), fun y => y.imp id (fun t => ⟨?_, t.2⟩)⟩)))
        by_cases e : v = w
        · subst e
          rw [z] at t
          exact absurd t.2 (by decide)
        · omega
  exact l20 (A 245) 0 h3 (by omega) f3 i3
end IP
