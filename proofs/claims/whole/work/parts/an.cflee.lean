/-! ===== the class's night: who stirred, what lanterns moved, who flees ===== -/
abbrev tmN (g0 : Nat) (A : Nat → Nat) (h : ah_T) : Prop := tmO (lawL A) (A 242) (A 244) g0 A h
section CF
variable {A : Nat → Nat} {N : Nd} {h g h1 : ah_T} {sp g0 : Nat} {S : Ns} {fr : Nat → Bool}
/-- a law that doesn't look at a word: not at later, not at minutes -/
theorem ans_wd {L : Option (List Cl)} (l0 : lwO L h) {b : Nat} (b4 : b = 4 ∨ b = 5) {what : Nat} (hb : ¬ bt (usd h what) b = true) {w w' : Nat → Int} (e : ∀ k, k < 8 → k ≠ b → w k = w' k) : ansA L what w = ansA L what w' := by
  cases L with
  | none =>
    unfold ansA
    have : ansS none w = ansS none w' := by
      unfold ansS
      dsimp only
      rw [e 1 (by omega) (by omega), e 2 (by omega) (by omega), e 3 (by omega) (by omega)]
    rw [this]
    rfl
  | some cls =>
    obtain ⟨x, ex, tt, hL⟩ := l0
    have a1 := ansA_some (what := what) (w := w) hL
    have a2 := ansA_some (what := what) (w := w') hL
    rw [usd_s ex] at hb
    have : ansV cls what w = ansV cls what w' := ans_dep (tx_dep tt what) hL (fun k hk bb => e k hk (fun y => by subst y; exact hb bb)) _
    omega
theorem shS_iff {A : Nat → Nat} {l k o a b la mi : Nat} {v : Int32} (d : dst (Ew A (shS A)) a b v) : ansA (lawL A) 0 (wQ l k o (sgv A a b) la mi (A 242) (A 244)) = 1 ↔ shS9 A l k o (sgN A a b) la mi = true := by
  obtain ⟨_, _, e⟩ := sgN_d d
  unfold shS9 ansA
  rw [if_pos rfl, e]
  cases ansS (lawL A) (wQ l k o ((sgN A a b : Int) - 1) la mi (A 242) (A 244)) with
  | false => exact ⟨fun y => absurd y (by decide), fun y => absurd y (by decide)⟩
  | true => exact ⟨fun _ => rfl, fun _ => rfl⟩
theorem shS_1 {A : Nat → Nat} {l k o a b mi : Nat} {v : Int32} (d : dst (Ew A (shS A)) a b v) : ansA (lawL A) 0 (wQ l k o (sgv A a b) 1 mi (A 242) (A 244)) = 1 ↔ shS9 A l k o (sgN A a b) 1 mi = true := shS_iff (la := 1) d
theorem ansA0 (L : Option (List Cl)) (w : Nat → Int) : ansA L 0 w = 0 ∨ ansA L 0 w = 1 := by
  unfold ansA
  rw [if_pos rfl]
  split
  · exact .inr rfl
  · exact .inl rfl
/-- a law that doesn't look at minutes -/
theorem shS_mi (l0 : lwO (lawL A) h) (hb : ¬ bt (usd h 0) 5 = true) (l k o ne la m m' : Nat) : shS9 A l k o ne la m = shS9 A l k o ne la m' := by
  have e := ans_wd l0 (.inr rfl) hb (w := wQ l k o ((ne : Int) - 1) la m (A 242) (A 244)) (w' := wQ l k o ((ne : Int) - 1) la m' (A 242) (A 244)) (fun j _ n5 => by unfold wQ; simp only [if_neg n5])
  unfold ansA at e
  rw [if_pos rfl, if_pos rfl] at e
  unfold shS9
  generalize ansS (lawL A) (wQ l k o ((ne : Int) - 1) la m (A 242) (A 244)) = x at e ⊢
  generalize ansS (lawL A) (wQ l k o ((ne : Int) - 1) la m' (A 242) (A 244)) = y at e ⊢
  cases x <;> cases y <;> first | rfl | exact absurd e (by decide)
/-- a law that doesn't look at later -/
theorem ans_la (l0 : lwO (lawL A) h) (hb : ¬ bt (usd h 0) 4 = true) (l k o ne la la' mi : Int) (wi mo : Nat) : ansA (lawL A) 0 (wQ l k o ne la mi wi mo) = ansA (lawL A) 0 (wQ l k o ne la' mi wi mo) :=
  ans_wd l0 (.inl rfl) hb (fun j _ n4 => by unfold wQ; simp only [if_neg n4])
theorem c_stirred {Q : Option Value → ah_T → Prop} (hs : Sh h) {L : Option (List Cl)} (l0 : lwO L h) (hq : ∀ v, (bt (usd h 0) 5 = true → v = ah_i h 43 5) → (¬ bt (usd h 0) 5 = true → v = (ah_i h 43 6 &&& ah_i h 43 5)) → Q (some (.int v)) h) : Mt mX3_stirredLamps [.ref 43] h Q := by
  refine T_X3_stirredLamps hs (c_heeds hs l0 (what := 0) (b := 5) rfl rfl (by omega) (by omega) ⟨_, rfl, hs, ?_⟩)
  by_cases z : bt (usd h 0) 5 = true
  · rw [if_pos z]
    (first | refine ⟨fun _ => ?_, fun n_ => absurd (show ¬ (1 : Int32) = 0 by decide) n_⟩ | refine ⟨fun n_ => absurd (show ¬ (1 : Int32) = 0 by decide) n_, fun _ => ?_⟩ | refine ⟨fun y_ => absurd y_ (show ¬ (1 : Int32) = 0 by decide), fun _ => ?_⟩ | refine ⟨fun _ => ?_, fun y_ => absurd y_ (show ¬ (1 : Int32) = 0 by decide)⟩)
    exact hq _ (fun _ => rfl) (fun y => absurd z y)
  · rw [if_neg z]
    (first | refine ⟨fun _ => ?_, fun n_ => absurd (show (0 : Int32) = 0 by rfl) n_⟩ | refine ⟨fun n_ => absurd (show (0 : Int32) = 0 by rfl) n_, fun _ => ?_⟩ | refine ⟨fun y_ => absurd y_ (show (0 : Int32) = 0 by rfl), fun _ => ?_⟩ | refine ⟨fun _ => ?_, fun y_ => absurd y_ (show (0 : Int32) = 0 by rfl)⟩)
    exact hq _ (fun y => absurd y z) (fun _ => rfl)
theorem b_or0 {x y : Int32} (h : (x ||| y) = 0) : y = 0 := by
  apply b_ext
  intro i _
  have e : bt (x ||| y) i = bt 0 i := by rw [h]
  rw [b_or, b_0] at e
  rw [b_0]
  cases z : bt y i
  · rfl
  · rw [z, Bool.or_true] at e; exact absurd e (by decide)
theorem b_1n {k : Nat} (hk : k < 32) : ¬ ((1 : Int32) <<< (nI k &&& 31)) = 0 := by
  intro e
  have : bt ((1 : Int32) <<< (nI k &&& 31)) k = bt 0 k := by rw [e]
  rw [b_1sh hk hk, b_0, decide_eq_true rfl] at this
  exact absurd this (by decide)
theorem c_moved {Q : Option Value → ah_T → Prop} (hs : Sh h) {L : Option (List Cl)} (l0 : lwO L h) (d : cND A N sp h) {m : Nat} {x1 : Int32} (e1 : x1 = nI m) (hm : m < 120) (hq : ∀ v, (v = 0 → ∀ k, k < N.q → N.pl k m = 0 ∨ (0 < m ∧ N.pl k (m - 1) = N.pl k m ∧ ¬ bt (usd h 0) 5 = true)) → Q (some (.int v)) h) : Mt mX3_movedLanterns [.ref 43, .int x1] h Q := by
  subst e1
  obtain ⟨⟨d0, d1, d2, d3⟩, f, d4, d5, d6, d7, d8, d9⟩ := d
  have lp : ∀ (q k : Nat) (v : Int32), k + q = N.q → (v = 0 → ∀ k', k' < k → N.pl k' m = 0 ∨ (0 < m ∧ N.pl k' (m - 1) = N.pl k' m ∧ ¬ bt (usd h 0) 5 = true)) → Wp mX3_movedLanterns Q 0 0 4 [some (.ref 43), some (.int (nI m)), some (.int v), some (.int (nI k)), none, none] [] h := by
    intro q
    induction q with
    | zero =>
      intro k v hk hv
      have e9 : k = N.q := by omega
      subst e9
      refine T_X3_movedLanterns_4 hs _ _ _ ?_
      rw [d5]
      (first | refine ⟨fun _ => ?_, fun n_ => absurd (show nI N.q ≤ nI N.q from nI_le (by omega) (by omega)) n_⟩ | refine ⟨fun n_ => absurd (show nI N.q ≤ nI N.q from nI_le (by omega) (by omega)) n_, fun _ => ?_⟩ | refine ⟨fun y_ => absurd y_ (show nI N.q ≤ nI N.q from nI_le (by omega) (by omega)), fun _ => ?_⟩ | refine ⟨fun _ => ?_, fun y_ => absurd y_ (show nI N.q ≤ nI N.q from nI_le (by omega) (by omega))⟩)
      exact hq v hv
    | succ q ih =>
      intro k v hk hv
      have hk2 : k < N.q := by omega
      obtain ⟨u1, u2⟩ := d3 k hk2
      have u3 := u2 m hm
      have same : (N.pl k m = 0 ∨ (0 < m ∧ N.pl k (m - 1) = N.pl k m ∧ ¬ bt (usd h 0) 5 = true)) → Wp mX3_movedLanterns Q 0 0 4 [some (.ref 43), some (.int (nI m)), some (.int v), some (.int (nI (k + 1))), none, none] [] h := by
        intro w
        refine ih (k + 1) v (by omega) (fun v0 k' hk' => ?_)
        by_cases z : k' = k
        · subst z; exact w
        · exact hv v0 k' (by omega)
      have more : Wp mX3_movedLanterns Q 0 0 4 [some (.ref 43), some (.int (nI m)), some (.int (v ||| ((1 : Int32) <<< (nI k &&& 31)))), some (.int (nI (k + 1))), none, none] [] h := ih (k + 1) _ (by omega) (fun v0 => absurd (b_or0 v0) (b_1n (by omega)))
      have c1 : nI k * 120 + nI m = nI (120 * k + m) := by rw [n_120, nI_mul, nI_add]; congr 1; omega
      have vp : vp_in (nI (120 * k + m)) 360 := (vp_nI (by omega)).mpr (by omega)
      have heed : (0 < m → N.pl k (m - 1) = N.pl k m) → (m = 0 → N.pl k m = 0) → Mt mX8_heeds [.ref 38, .int 0, .int 5] h (ab_qi fun v9 h7 => Sh h7 ∧ ((v9 = 0 → Wp mX3_movedLanterns Q 0 0 4 [some (.ref 43), some (.int (nI m)), some (.int v), some (.int (nI (k + 1))), none, none] [] h7) ∧ (¬ v9 = 0 → Wp mX3_movedLanterns Q 0 0 4 [some (.ref 43), some (.int (nI m)), some (.int (v ||| ((1 : Int32) <<< (nI k &&& 31)))), some (.int (nI (k + 1))), none, none] [] h7))) := by
        intro w w0
        refine c_heeds hs l0 (what := 0) (b := 5) rfl rfl (by omega) (by omega) ⟨_, rfl, hs, ?_⟩
        by_cases z : bt (usd h 0) 5 = true
        · rw [if_pos z]
          (first | refine ⟨fun _ => ?_, fun n_ => absurd (show ¬ (1 : Int32) = 0 by decide) n_⟩ | refine ⟨fun n_ => absurd (show ¬ (1 : Int32) = 0 by decide) n_, fun _ => ?_⟩ | refine ⟨fun y_ => absurd y_ (show ¬ (1 : Int32) = 0 by decide), fun _ => ?_⟩ | refine ⟨fun _ => ?_, fun y_ => absurd y_ (show ¬ (1 : Int32) = 0 by decide)⟩)
          exact more
        · rw [if_neg z]
          (first | refine ⟨fun _ => ?_, fun n_ => absurd (show (0 : Int32) = 0 by rfl) n_⟩ | refine ⟨fun n_ => absurd (show (0 : Int32) = 0 by rfl) n_, fun _ => ?_⟩ | refine ⟨fun y_ => absurd y_ (show (0 : Int32) = 0 by rfl), fun _ => ?_⟩ | refine ⟨fun _ => ?_, fun y_ => absurd y_ (show (0 : Int32) = 0 by rfl)⟩)
          rcases Nat.eq_zero_or_pos m with y | y
          · exact same (.inl (w0 y))
          · exact same (.inr ⟨y, w y, z⟩)
      refine T_X3_movedLanterns_4 hs _ _ _ ?_
      rw [d5]
      (first | refine ⟨fun _ => ?_, fun n_ => absurd (show ¬ nI N.q ≤ nI k from nI_ge (by omega) (by omega)) n_⟩ | refine ⟨fun n_ => absurd (show ¬ nI N.q ≤ nI k from nI_ge (by omega) (by omega)) n_, fun _ => ?_⟩ | refine ⟨fun y_ => absurd y_ (show ¬ nI N.q ≤ nI k from nI_ge (by omega) (by omega)), fun _ => ?_⟩ | refine ⟨fun _ => ?_, fun y_ => absurd y_ (show ¬ nI N.q ≤ nI k from nI_ge (by omega) (by omega))⟩)
      rw [c1, nI_1, nI_clamp (show 120 * k + m < 2 ^ 31 by omega), (d8 k hk2).2 m hm, sh_n hs 49 360 (by decide) (by decide) rfl]
      refine ⟨vp, fun zm => ?_, fun zm => ?_⟩
      · have m0 : m ≠ 0 := fun y => zm (by rw [y]; rfl)
        have c2 : nI (120 * k + m) - 1 = nI (120 * k + (m - 1)) := by rw [show 120 * k + m = (120 * k + (m - 1)) + 1 by omega]; exact nI_pred _
        rw [c2, nI_clamp (show 120 * k + (m - 1) < 2 ^ 31 by omega), (d8 k hk2).2 (m - 1) (by omega)]
        refine ⟨(vp_nI (by omega)).mpr (by omega), fun y => ?_, fun y => ⟨fun _ => more, fun y2 => ?_⟩⟩
        · rcases Nat.eq_zero_or_pos (N.pl k m) with w | w
          · exact same (.inl w)
          · rw [show N.pl k m = (N.pl k m - 1) + 1 by omega, nO_s] at y
            exact absurd y (nI_m1 (by omega))
        · have u4 := u2 (m - 1) (by omega)
          have e2 : N.pl k (m - 1) = N.pl k m := by
            have q2 : ∀ j, nI j - 1 + 1 = nI j := fun j => by rw [Int32.sub_add_cancel]
            have y3 := y2
            unfold nO at y3
            have y4 : nI (N.pl k m) - 1 + 1 = nI (N.pl k (m - 1)) - 1 + 1 := by rw [y3]
            rw [q2, q2] at y4
            exact ((nI_eq (by omega) (by omega)).mp y4).symm
          exact heed (fun _ => e2) (fun y => absurd y m0)
      · have m0 : m = 0 := (nI_eq (b := 0) (by omega) (by omega)).mp zm
        refine ⟨fun y => ?_, fun y => ⟨fun _ => more, fun y2 => absurd y2 y⟩⟩
        rcases Nat.eq_zero_or_pos (N.pl k m) with w | w
        · exact same (.inl w)
        · rw [show N.pl k m = (N.pl k m - 1) + 1 by omega, nO_s] at y
          exact absurd y (nI_m1 (by omega))
  exact T_X3_movedLanterns hs _ (lp N.q 0 0 (by omega) (fun _ k' hk' => by omega))
/-- lamps that burn and shun a lantern -/
def flB (A : Nat → Nat) (N : Nd) (S : Ns) (m k : Nat) (v : Int32) : Prop := ∀ i, i < 32 → (bt v i = true ↔ i < N.n ∧ S.bu i = true ∧ ∃ k', k' < k ∧ shK A N m i k' = true)
theorem tmF_n (f : tmF h g) (d : cND A N sp h) : cND A N sp g := cND_fr (fun a ha => (f.2.2.1 a (by omega) (by omega) (by omega) (by omega) (by omega) (by omega) (by omega)).1) (fun j _ => (f.2.2.1 43 (by decide) (by decide) (by decide) (by decide) (by decide) (by decide) (by decide)).1 j) d
theorem tmF_s (f : tmF h g) (n : cNS N S fr h) : cNS N S fr g := cNS_fr (fun a ha => (f.2.2.1 a (by omega) (by omega) (by omega) (by omega) (by omega) (by omega) (by omega)).1) (fun j _ => (f.2.2.1 43 (by decide) (by decide) (by decide) (by decide) (by decide) (by decide) (by decide)).1 j) n
theorem c_fleeing {Q : Option Value → ah_T → Prop} (hs : Sh h) (t : tmN g0 A h) (d : cND A N sp h) (n : cNS N S fr h) {m : Nat} {x1 : Int32} (e1 : x1 = nI m) (hm : m < 120) (hq : ∀ h' v, tmF h h' → tmN g0 A h' → flB A N S m N.q v → Q (some (.int v)) h') : Mt mX3_fleeing [.ref 43, .int x1] h Q := by
  subst e1
  have wl := t.2.2.2.2.2.2.2.1
  have wl1 := wl.1
  have lp : ∀ (q k : Nat) (g : ah_T) (v : Int32), k + q = N.q → tmF h g → tmN g0 A g → flB A N S m k v → Wp mX3_fleeing Q 0 0 4 [some (.ref 43), some (.int (nI m)), some (.int v), some (.int (nI k)), none, none, none, none] [] g := by
    intro q
    induction q with
    | zero =>
      intro k g v hk f tg hv
      have e9 : k = N.q := by omega
      subst e9
      have w3 := d.1.2.2.1
      refine T_X3_fleeing_4 f.1 _ _ _ ?_
      rw [(tmF_n f d).2.2.2.1]
      (first | refine ⟨fun _ => ?_, fun n_ => absurd (show nI N.q ≤ nI N.q from nI_le (by omega) (by omega)) n_⟩ | refine ⟨fun n_ => absurd (show nI N.q ≤ nI N.q from nI_le (by omega) (by omega)) n_, fun _ => ?_⟩ | refine ⟨fun y_ => absurd y_ (show nI N.q ≤ nI N.q from nI_le (by omega) (by omega)), fun _ => ?_⟩ | refine ⟨fun _ => ?_, fun y_ => absurd y_ (show nI N.q ≤ nI N.q from nI_le (by omega) (by omega))⟩)
      exact hq g v f tg hv
    | succ q ih =>
      intro k g v hk f tg hv
      have hk2 : k < N.q := by omega
      have dg := tmF_n f d
      have ng := tmF_s f n
      obtain ⟨⟨d0, d1, d2, d3⟩, ⟨f1, f2, f3, f4, f5, f6, f7, f8, f9⟩, d4, d5, d6, d7, d8, d9⟩ := dg
      obtain ⟨u1, u2⟩ := d3 k hk2
      have u3 := u2 m hm
      have c1 : nI k * 120 + nI m = nI (120 * k + m) := by rw [n_120, nI_mul, nI_add]; congr 1; omega
      have vp : vp_in (nI (120 * k + m)) 360 := (vp_nI (by omega)).mpr (by omega)
      refine T_X3_fleeing_4 f.1 _ _ _ ?_
      rw [d5]
      (first | refine ⟨fun _ => ?_, fun n_ => absurd (show ¬ nI N.q ≤ nI k from nI_ge (by omega) (by omega)) n_⟩ | refine ⟨fun n_ => absurd (show ¬ nI N.q ≤ nI k from nI_ge (by omega) (by omega)) n_, fun _ => ?_⟩ | refine ⟨fun y_ => absurd y_ (show ¬ nI N.q ≤ nI k from nI_ge (by omega) (by omega)), fun _ => ?_⟩ | refine ⟨fun _ => ?_, fun y_ => absurd y_ (show ¬ nI N.q ≤ nI k from nI_ge (by omega) (by omega))⟩)
      rw [c1, nI_1, nI_clamp (show 120 * k + m < 2 ^ 31 by omega), nI_clamp (show k < 2 ^ 31 by omega), (d8 k hk2).2 m hm, (d8 k hk2).1, sh_n f.1 49 360 (by decide) (by decide) rfl, sh_n f.1 48 3 (by decide) (by decide) rfl]
      refine ⟨vp, fun zp => ⟨(vp_nI (by omega)).mpr (by omega), ?_⟩, fun zp => ?_⟩
      · have p0 : N.pl k m ≠ 0 := fun y => zp (by rw [y]; rfl)
        obtain ⟨c, ec⟩ : ∃ c, N.pl k m = c + 1 := ⟨N.pl k m - 1, by omega⟩
        have hc : c < 12 := by omega
        rw [ec, nO_s]
        have ek : ∀ i, shK A N m i k = shS9 A i (N.ki i) (N.lk k) (sgN A (N.co i) c) 1 m := by
          intro i
          unfold shK
          rw [ec, decide_eq_true (Nat.succ_ne_zero c), Bool.true_and]
          rfl
        -- the bits behind this lantern
        have nx : ∀ (g1 : ah_T) (w : Int32), tmF h g1 → tmN g0 A g1 → (∀ i, i < 32 → i < N.n → S.bu i = true → (bt w i = true ↔ shK A N m i k = true)) → Wp mX3_fleeing Q 0 0 4 [some (.ref 43), some (.int (nI m)), some (.int (v ||| (w &&& ah_i g1 43 5))), some (.int (nI (k + 1))), none, none, none, none] [] g1 := by
          intro g1 w fg1 tg1 hw
          refine ih (k + 1) g1 _ (by omega) fg1 tg1 (fun i hi => ?_)
          have nb := (tmF_s fg1 n).2.2.1 i hi
          rw [b_or, b_and, Bool.or_eq_true, Bool.and_eq_true, hv i hi, nb]
          constructor
          · rintro (⟨y1, y2, k', y3, y4⟩ | ⟨y1, y2, y3⟩)
            · exact ⟨y1, y2, k', by omega, y4⟩
            · exact ⟨y2, y3, k, by omega, (hw i hi y2 y3).mp y1⟩
          · rintro ⟨y1, y2, k', y3, y4⟩
            by_cases z : k' = k
            · subst z
              exact .inr ⟨(hw i hi y1 y2).mpr y4, y1, y2⟩
            · exact .inl ⟨y1, y2, k', by omega, y4⟩
        refine c_fearful f.1 tg rfl rfl rfl u1 hc hm (fun g1 w f1 t1 hw => ⟨_, rfl, f1.1, ?_⟩)
        have fg1 := tmF_t f f1
        have dg1 := tmF_n fg1 d
        have sg1 := t1.2.2.2.2.1
        rw [dg1.2.2.2.2.1]
        -- a lamp that is as the town has it
        have town : ∀ i, i < N.n → i + 1 ≠ sp → i < 32 → (bt w i = true ↔ shK A N m i k = true) := by
          intro i hi ns h32
          have hi2 : i < A 246 := by
            rcases Nat.lt_or_ge i (A 246) with y | y
            · exact y
            · have := f5 (by omega); omega
          obtain ⟨q1, q2⟩ := f4 i hi2
          obtain ⟨r1, r2, _⟩ := wl.2 i hi2
          rw [ek i, hw i h32, q1, q2 ns]
          rw [shS_1 (sg1 _ _ r1 hc)]
          exact ⟨fun y => y.2, fun y => ⟨hi2, y⟩⟩
        by_cases zs : sp = 0
        · rw [zs]
          (first | refine ⟨fun _ => ?_, fun n_ => absurd (show nO 0 = -1 from rfl) n_⟩ | refine ⟨fun n_ => absurd (show nO 0 = -1 from rfl) n_, fun _ => ?_⟩ | refine ⟨fun y_ => absurd y_ (show nO 0 = -1 from rfl), fun _ => ?_⟩ | refine ⟨fun _ => ?_, fun y_ => absurd y_ (show nO 0 = -1 from rfl)⟩)
          exact nx g1 w fg1 t1 (fun i h32 hi _ => town i hi (by omega) h32)
        · obtain ⟨s, es⟩ : ∃ s, sp = s + 1 := ⟨sp - 1, by omega⟩
          have hs2 : s < N.n := by omega
          obtain ⟨v1, v2⟩ := d1 s hs2
          rw [es, nO_s]
          (first | refine ⟨fun _ => ?_, fun n_ => absurd (nI_m1 (show s < 2 ^ 31 by omega)) n_⟩ | refine ⟨fun n_ => absurd (nI_m1 (show s < 2 ^ 31 by omega)) n_, fun _ => ?_⟩ | refine ⟨fun y_ => absurd y_ (nI_m1 (show s < 2 ^ 31 by omega)), fun _ => ?_⟩ | refine ⟨fun _ => ?_, fun y_ => absurd y_ (nI_m1 (show s < 2 ^ 31 by omega))⟩)
          have vs : vp_in (nI s) 10 := (vp_nI (by omega)).mpr (by omega)
          obtain ⟨x1, x2⟩ := dg1.2.2.2.2.2.1 s hs2
          rw [nI_clamp (show s < 2 ^ 31 by omega), x1, x2, f_sight v1 hc, sh_n f1.1 44 10 (by decide) (by decide) rfl, sh_n f1.1 45 10 (by decide) (by decide) rfl]
          obtain ⟨s1, s2, s3⟩ := sgv_in (sg1 _ _ v1 hc)
          refine ⟨vs, v_sight f1.1 v1 hc, vs, ?_⟩
          refine c_ask f1.1 t1.1 t1.2.1 t1.2.2.1 (what := 0) (w := wQ s (N.ki s) (N.lk k) (sgv A (N.co s) c) 1 m (A 242) (A 244)) rfl (by omega) (nI_toInt (by omega)) (nI_toInt (by omega)) (nI_toInt (by omega)) s1 rfl (nI_toInt (by omega)) rfl rfl (wQ_rg ⟨by omega, by omega⟩ ⟨by omega, by omega⟩ ⟨by omega, by omega⟩ ⟨by omega, by omega⟩ ⟨by omega, by omega⟩ ⟨by omega, by omega⟩) (fun g2 f2 tp2 => ⟨_, rfl, f2.1, ?_⟩)
          have fg2 := tmF_t fg1 (tmF_ak f2)
          have dg2 := tmF_n fg2 d
          have e15 : ah_i g2 43 15 = nI s := by rw [dg2.2.2.2.2.1, es, nO_s]
          have a01 := shS_1 (l := s) (k := N.ki s) (o := N.lk k) (mi := m) (sg1 _ _ v1 hc)
          rw [e15]
          refine nx g2 _ fg2 (tm_ask f2 tp2 t1) (fun i h32 hi hb => ?_)
          rw [b_or, b_and, b_not _ h32, b_1sh (by omega) h32]
          have bs : bt (nI (ansA (lawL A) 0 (wQ s (N.ki s) (N.lk k) (sgv A (N.co s) c) 1 m (A 242) (A 244))) <<< (nI s &&& 31)) i = (decide (i = s) && shS9 A s (N.ki s) (N.lk k) (sgN A (N.co s) c) 1 m) := by
            rcases ansA0 (lawL A) (wQ s (N.ki s) (N.lk k) (sgv A (N.co s) c) 1 m (A 242) (A 244)) with y | y
            · rw [y]
              have : shS9 A s (N.ki s) (N.lk k) (sgN A (N.co s) c) 1 m = false := by
                cases e : shS9 A s (N.ki s) (N.lk k) (sgN A (N.co s) c) 1 m
                · rfl
                · have := a01.mpr e; omega
              rw [this, Bool.and_false, b_shl s (by omega) _ h32]
              rw [show nI 0 = 0 from rfl, b_0, Bool.and_false]
            · have := a01.mp y
              rw [y, this, Bool.and_true]
              exact b_1sh (by omega) h32
          rw [bs]
          by_cases z : i = s
          · subst z
            rw [ek i, decide_eq_true rfl]
            simp only [Bool.not_true, Bool.and_false, Bool.true_and, Bool.false_or]
          · rw [decide_eq_false z]
            simp only [Bool.not_false, Bool.and_true, Bool.false_and, Bool.or_false]
            exact town i hi (by omega) h32
      · refine ih (k + 1) g v (by omega) f tg (fun i hi => ?_)
        have p0 : N.pl k m = 0 := by
          rcases Nat.eq_zero_or_pos (N.pl k m) with w | w
          · exact w
          · rw [show N.pl k m = (N.pl k m - 1) + 1 by omega, nO_s] at zp
            exact absurd zp (nI_m1 (by omega))
        rw [hv i hi]
        constructor
        · rintro ⟨y1, y2, k', y3, y4⟩
          exact ⟨y1, y2, k', by omega, y4⟩
        · rintro ⟨y1, y2, k', y3, y4⟩
          refine ⟨y1, y2, k', ?_, y4⟩
          by_cases z : k' = k
          · subst z
            unfold shK at y4
            rw [p0] at y4
            exact absurd y4 (by simp)
          · omega
  refine T_X3_fleeing hs _ (lp N.q 0 h 0 (by omega) (tmF_r hs) t (fun i hi => ?_))
  rw [b_0]
  exact ⟨fun y => absurd y (by decide), fun y => by obtain ⟨_, _, k', y3, _⟩ := y; omega⟩
end CF
