/-! ===== the class runs a minute ===== -/
/-- why a minute where nobody stirred drives nobody out -/
def qiO (A : Nat → Nat) (N : Nd) (S : Ns) (m : Nat) (fr : Nat → Bool) : Prop := (m = 0 ∧ ∀ l, l < N.n → S.bu l = true → fr l = true) ∨ (0 < m ∧ ∀ l, l < N.n → S.bu l = true → drB A N S (m - 1) l = false)
section CT
variable {A : Nat → Nat} {N : Nd} {h g h1 : ah_T} {sp g0 : Nat} {S : Ns} {fr : Nat → Bool}
theorem any_t {n : Nat} {f : Nat → Bool} : (List.range n).any f = true ↔ ∃ o, o < n ∧ f o = true :=
  ⟨fun y => by obtain ⟨o, ho, z⟩ := List.any_eq_true.mp y; exact ⟨o, List.mem_range.mp ho, z⟩, fun ⟨o, ho, z⟩ => anyT ho z⟩
theorem drO_t {m l o : Nat} : drO A N S m l o = true ↔ o ≠ l ∧ S.bu o = true ∧ shL A N S m l o = true ∧ ¬ (ltr S o l = true ∧ shL A N S m o l = true) := by
  unfold drO
  rw [Bool.and_eq_true, Bool.and_eq_true, Bool.and_eq_true, decide_eq_true_eq, Bool.not_eq_true', Bool.and_eq_false_iff]
  constructor
  · rintro ⟨y1, y2, y3, y4⟩
    refine ⟨y1, y2, y3, fun z => ?_⟩
    rcases y4 with y | y
    · rw [z.1] at y; exact absurd y (by decide)
    · rw [z.2] at y; exact absurd y (by decide)
  · rintro ⟨y1, y2, y3, y4⟩
    refine ⟨y1, y2, y3, ?_⟩
    cases e1 : ltr S o l
    · exact .inl rfl
    · cases e2 : shL A N S m o l
      · exact .inr rfl
      · exact absurd ⟨e1, e2⟩ y4
theorem drB_t {m l : Nat} : drB A N S m l = true ↔ (∃ o, o < N.n ∧ drO A N S m l o = true) ∨ ∃ k, k < N.q ∧ shK A N m l k = true := by
  unfold drB
  rw [Bool.or_eq_true, any_t, any_t]
/-- fewer burn, since the same minutes, another minute that the law doesn't tell apart -/
theorem drO_mo {S' : Ns} {m m' l o : Nat} (hl : S'.si l = S.si l) (ho : S'.bu o = true → S.bu o = true ∧ S'.si o = S.si o) (hm : ∀ l k o ne la, shS9 A l k o ne la m' = shS9 A l k o ne la m) (y : drO A N S' m' l o = true) : drO A N S m l o = true := by
  rw [drO_t] at y ⊢
  obtain ⟨y1, y2, y3, y4⟩ := y
  obtain ⟨z1, z2⟩ := ho y2
  have e1 : shL A N S' m' l o = shL A N S m l o := by unfold shL; rw [hl, z2, hm]
  have e2 : shL A N S' m' o l = shL A N S m o l := by unfold shL; rw [hl, z2, hm]
  have e3 : ltr S' o l = ltr S o l := by unfold ltr; rw [hl, z2]
  rw [e1] at y3
  rw [e2, e3] at y4
  exact ⟨y1, z1, y3, y4⟩
theorem miM_bu {m l : Nat} (hl : l < N.n) (y : (miM A N S m).bu l = true) : (wkM A N S m).bu l = true ∧ goM A N S m l = false := by
  have e : (miM A N S m).bu l = (((wkM A N S m).bu l && !goM A N S m l) && decide (0 < (wkM A N S m).oi l - drkA A l (N.ki l) m)) := if_pos hl
  rw [e] at y
  obtain ⟨y1, _⟩ := Bool.and_eq_true_iff.mp y
  obtain ⟨y2, y3⟩ := Bool.and_eq_true_iff.mp y1
  rw [Bool.not_eq_true'] at y3
  exact ⟨y2, y3⟩
theorem qi_next (m : Nat) (f : Nat → Bool) : qiO A N (miM A N S m) (m + 1) f := by
  refine .inr ⟨by omega, fun l hl y => ?_⟩
  obtain ⟨y1, y2⟩ := miM_bu hl y
  have y3 : drB A N (wkM A N S m) m l = false := by
    unfold goM at y2
    rw [y1, Bool.true_and] at y2
    exact y2
  cases e : drB A N (miM A N S m) (m + 1 - 1) l
  · rfl
  · rw [drB_t] at e
    rw [show m + 1 - 1 = m by omega] at e
    have : drB A N (wkM A N S m) m l = true := by
      rw [drB_t]
      rcases e with ⟨o, ho, z⟩ | z
      · exact .inl ⟨o, ho, drO_mo (S := wkM A N S m) (S' := miM A N S m) rfl (fun w => ⟨(miM_bu ho w).1, rfl⟩) (fun _ _ _ _ _ => rfl) z⟩
      · exact .inr z
    rw [y3] at this
    exact absurd this (by decide)
theorem rq_next {m : Nat} (wT : 1 ≤ A 243) (rq : rqO A N S m) : rqO A N (miM A N S m) (m + 1) := by
  intro l hl y
  have e : (miM A N S m).ou l = (if l < N.n ∧ goM A N S m l = true then m + 1 else (wkM A N S m).ou l) := rfl
  rw [e] at y ⊢
  by_cases z : goM A N S m l = true
  · rw [if_pos ⟨hl, z⟩]
    omega
  · rw [if_neg (fun w => z w.2)] at y ⊢
    have e2 : (wkM A N S m).ou l = (if l < N.n ∧ wkB A (npr A S m (A 247)) m l = true then 0 else (npr A S m (A 247)).ou l) := rfl
    rw [e2] at y ⊢
    by_cases w : wkB A (npr A S m (A 247)) m l = true
    · rw [if_pos ⟨hl, w⟩] at y; exact absurd rfl y
    · rw [if_neg (fun u => w u.2)] at y ⊢
      have eou := npr_ou (A := A) (S := S) (m := m) (A 247) l y
      obtain ⟨q1, q2⟩ := rq l hl (by rw [← eou]; exact y)
      rw [← eou] at q1 q2
      have nw : ¬ ((npr A S m (A 247)).ou l ≠ 0 ∧ (npr A S m (A 247)).ou l - 1 + A 243 = m) := fun u => w (decide_eq_true u)
      have nw2 : ¬ (npr A S m (A 247)).ou l - 1 + A 243 = m := fun u => nw ⟨y, u⟩
      omega
/-- nobody stirred, no lantern moved: nobody goes -/
theorem quiet {m : Nat} {fr' : Nat → Bool} (l0 : lwO (lawL A) h) (qi : qiO A N S m fr) (cv : cvO N S fr (wkM A N S m) fr') (hs : (bt (usd h 0) 5 = true ∧ ∀ l, l < N.n → (wkM A N S m).bu l = false) ∨ (¬ bt (usd h 0) 5 = true ∧ ∀ l, l < N.n → (wkM A N S m).bu l = true → fr' l = false)) (hl : ∀ k, k < N.q → N.pl k m = 0 ∨ (0 < m ∧ N.pl k (m - 1) = N.pl k m ∧ ¬ bt (usd h 0) 5 = true)) : ∀ l, l < N.n → goM A N S m l = false := by
  intro l hl2
  rcases hs with ⟨_, hs⟩ | ⟨nb, hs⟩
  · unfold goM
    rw [hs l hl2, Bool.false_and]
  cases eb : (wkM A N S m).bu l with
  | false => unfold goM; rw [eb, Bool.false_and]
  | true =>
    cases eg : goM A N S m l with
    | false => rfl
    | true =>
      exfalso
      unfold goM at eg
      rw [eb, Bool.true_and] at eg
      obtain ⟨c1, c2⟩ := cv l hl2 (hs l hl2 eb)
      obtain ⟨c3, c4⟩ := c2 eb
      rcases qi with ⟨q1, q2⟩ | ⟨q1, q2⟩
      · rw [q2 l hl2 c3] at c1
        exact absurd c1 (by decide)
      · have q3 := q2 l hl2 c3
        have q4 : drB A N S (m - 1) l = true := by
          rw [drB_t] at eg ⊢
          rcases eg with ⟨o, ho, z⟩ | ⟨k, hk, z⟩
          · refine .inl ⟨o, ho, drO_mo (S := S) c4 (fun w => ?_) (fun l k o ne la => shS_mi l0 nb l k o ne la m (m - 1)) z⟩
            exact (cv o ho (hs o ho w)).2 w
          · refine .inr ⟨k, hk, ?_⟩
            rcases hl k hk with y | ⟨_, y, _⟩
            · unfold shK at z
              rw [y] at z
              exact absurd z (by simp)
            · unfold shK at z ⊢
              rw [y, ← shS_mi l0 nb l (N.ki l) (N.lk k) (sgN A (N.co l) (N.pl k m - 1)) 1 m (m - 1)]
              exact z
        rw [q3] at q4
        exact absurd q4 (by decide)
/-- all a minute of the class needs -/
def cAl (g0 : Nat) (A : Nat → Nat) (N : Nd) (sp : Nat) (S : Ns) (fr : Nat → Bool) (h : ah_T) : Prop := cTw A h ∧ tmN g0 A h ∧ cND A N sp h ∧ cNS N S fr h
theorem c_step {Q : Option Value → ah_T → Prop} (hs : Sh h) (al : cAl g0 A N sp S fr h) {m : Nat} {x1 : Int32} (e1 : x1 = nI m) (hm : m < 120) (rq : rqO A N S m) (qi : qiO A N S m fr)
    (hq : ∀ h' r, cyF h h' → cyK h h' → cAl g0 A N sp (miM A N S m) (fun _ => false) h' → (∀ i, i < 32 → (bt r i = true ↔ i < N.n ∧ liM A N S (goM A N S m) m i = true)) → (∀ i, i < 32 → (bt (ah_i h' 43 7) i = true ↔ i < N.n ∧ goM A N S m i = true)) → Q (some (.int r)) h') : Mt mX3_step [.ref 43, .int x1] h Q := by
  subst e1
  obtain ⟨t, tm, d, n⟩ := al
  -- the end, on any heap behind the switches
  have fin : ∀ (g : ah_T) (v : Int32) (fr' : Nat → Bool), cyF h g → cyK h g → tmN g0 A g → cNS N (wkM A N S m) fr' g → (∀ i, i < 32 → (bt v i = true ↔ i < N.n ∧ goM A N S m i = true)) → Mt mX3_finish [.ref 43, .int (nI m), .int v] g (ab_qi fun v37 h35 => Sh h35 ∧ Q (some (.int v37)) h35) := by
    intro g v fr' f k tg ng hv
    refine c_finish f.1 tg (cyK_d k d) ng rfl hm hv (fun l hl y => ?_) (fun g1 r f1 k1 t1 n1 e7 hr => ⟨_, rfl, f1.1, ?_⟩)
    · unfold goM at y
      exact (Bool.and_eq_true_iff.mp y).1
    · refine hq g1 r (cyF_t f f1) (cyK_t k k1) ⟨cTw_y (cyF_t f f1) t, t1, cyK_d (cyK_t k k1) d, n1⟩ hr (fun i hi => ?_)
      rw [e7]
      exact hv i hi
  refine T_X3_step hs _ (c_prepare hs t d n rfl hm rq (fun g1 fr' c1 d1 n1 cv ko => ⟨rfl, c1.1, ?_⟩))
  have w10 := d.1.1
  have f1 := cyF_e c1
  have k1 : cyK h g1 := ⟨fun a ha j => ko a (by omega) (by omega) (by omega) j, fun j hj => by
    rcases hj with rfl | rfl | rfl
    · rw [d1.2.2.1, d.2.2.1]
    · rw [d1.2.2.2.1, d.2.2.2.1]
    · rw [d1.2.2.2.2.1, d.2.2.2.2.1]⟩
  have t1 := tmO_n c1 tm
  have l0 := t1.1.1
  have n1' := n1
  obtain ⟨m1, m2, m3, m4, m5, m6⟩ := n1'
  -- the loops, behind who flees
  have l73 : ∀ (q x : Nat) (g : ah_T) (v : Int32), x + q = N.n → cyF h g → cyK h g → tmN g0 A g → cNS N (wkM A N S m) fr' g → s52 A N (wkM A N S m) m N.n g → (∀ i, i < 32 → (bt v i = true ↔ i < N.n ∧ (wkM A N S m).bu i = true ∧ ((∃ k, k < N.q ∧ shK A N m i k = true) ∨ (i < x ∧ ∃ o, o < N.n ∧ drO A N (wkM A N S m) m i o = true)))) → Wp mX3_step Q 0 0 73 [some (.ref 43), some (.int (nI m)), some (.int v), some (.int (nI x))] [] g := by
    intro q
    induction q with
    | zero =>
      intro x g v hx f k tg ng s5 hv
      have e9 : x = N.n := by omega
      subst e9
      refine T_X3_step_73 f.1 _ _ _ ?_
      rw [(cyK_d k d).2.2.1]
      (first | refine ⟨fun _ => ?_, fun n_ => absurd (show nI N.n ≤ nI N.n from nI_le (by omega) (by omega)) n_⟩ | refine ⟨fun n_ => absurd (show nI N.n ≤ nI N.n from nI_le (by omega) (by omega)) n_, fun _ => ?_⟩ | refine ⟨fun y_ => absurd y_ (show nI N.n ≤ nI N.n from nI_le (by omega) (by omega)), fun _ => ?_⟩ | refine ⟨fun _ => ?_, fun y_ => absurd y_ (show nI N.n ≤ nI N.n from nI_le (by omega) (by omega))⟩)
      refine fin g v fr' f k tg ng (fun i hi => (hv i hi).trans ?_)
      unfold goM
      rw [Bool.and_eq_true, drB_t]
      constructor
      · rintro ⟨y1, y2, y3 | ⟨y3, y4⟩⟩
        · exact ⟨y1, y2, .inr y3⟩
        · exact ⟨y1, y2, .inl y4⟩
      · rintro ⟨y1, y2, y3 | y3⟩
        · exact ⟨y1, y2, .inr ⟨y1, y3⟩⟩
        · exact ⟨y1, y2, .inl y3⟩
    | succ q ih =>
      intro x g v hx f k tg ng s5 hv
      have hx2 : x < N.n := by omega
      have dg := cyK_d k d
      have vx : vp_in (nI x) 10 := (vp_nI (by omega)).mpr (by omega)
      have no : (∀ o, o < N.n → (wkM A N S m).bu x = true → drO A N (wkM A N S m) m x o = false) → Wp mX3_step Q 0 0 73 [some (.ref 43), some (.int (nI m)), some (.int v), some (.int (nI (x + 1)))] [] g := by
        intro nd
        refine ih (x + 1) g v (by omega) f k tg ng s5 (fun i hi => (hv i hi).trans ?_)
        constructor
        · rintro ⟨y1, y2, y3 | ⟨y3, y4⟩⟩
          · exact ⟨y1, y2, .inl y3⟩
          · exact ⟨y1, y2, .inr ⟨by omega, y4⟩⟩
        · rintro ⟨y1, y2, y3 | ⟨y3, y4⟩⟩
          · exact ⟨y1, y2, .inl y3⟩
          · refine ⟨y1, y2, .inr ⟨?_, y4⟩⟩
            by_cases u : i = x
            · subst u
              obtain ⟨o, ho, z⟩ := y4
              rw [nd o ho y2] at z
              exact absurd z (by decide)
            · omega
      refine T_X3_step_73 f.1 _ _ _ ?_
      rw [dg.2.2.1]
      (first | refine ⟨fun _ => ?_, fun n_ => absurd (show ¬ nI N.n ≤ nI x from nI_ge (by omega) (by omega)) n_⟩ | refine ⟨fun n_ => absurd (show ¬ nI N.n ≤ nI x from nI_ge (by omega) (by omega)) n_, fun _ => ?_⟩ | refine ⟨fun y_ => absurd y_ (show ¬ nI N.n ≤ nI x from nI_ge (by omega) (by omega)), fun _ => ?_⟩ | refine ⟨fun _ => ?_, fun y_ => absurd y_ (show ¬ nI N.n ≤ nI x from nI_ge (by omega) (by omega))⟩)
      rw [nI_1, nI_clamp (show x < 2 ^ 31 by omega), sh_n f.1 52 10 (by decide) (by decide) rfl]
      refine ⟨vx, fun z => no (fun o ho bx => ?_), fun z => ?_⟩
      · cases e : drO A N (wkM A N S m) m x o
        · rfl
        · rw [drO_t] at e
          have := ((s5 x hx2).1 bx o (by omega)).mpr ⟨ho, e.1, e.2.1, e.2.2.1⟩
          rw [z, b_0] at this
          exact absurd this (by decide)
      · have bx : (wkM A N S m).bu x = true := by
          cases e : (wkM A N S m).bu x
          · exact absurd ((s5 x hx2).2 e) z
          · rfl
        refine c_yields f.1 dg ng rfl hx2 bx s5 ⟨_, rfl, f.1, ?_⟩
        rw [bI_0]
        refine ⟨fun y => no (fun o ho _ => ?_), fun y => ?_⟩
        · cases e : drO A N (wkM A N S m) m x o
          · rfl
          · rw [anyT ho e] at y; exact absurd y (by decide)
        · have yt : (List.range N.n).any (drO A N (wkM A N S m) m x) = true := by cases e : (List.range N.n).any (drO A N (wkM A N S m) m x); exact absurd e y; rfl
          refine ih (x + 1) g _ (by omega) f k tg ng s5 (fun i hi => ?_)
          rw [b_or, b_1sh (by omega) hi, Bool.or_eq_true, decide_eq_true_eq, hv i hi]
          constructor
          · rintro (⟨y1, y2, y3 | ⟨y3, y4⟩⟩ | y1)
            · exact ⟨y1, y2, .inl y3⟩
            · exact ⟨y1, y2, .inr ⟨by omega, y4⟩⟩
            · subst y1
              exact ⟨hx2, bx, .inr ⟨by omega, any_t.mp yt⟩⟩
          · rintro ⟨y1, y2, y3 | ⟨y3, y4⟩⟩
            · exact .inl ⟨y1, y2, .inl y3⟩
            · by_cases u : i = x
              · exact .inr u
              · exact .inl ⟨y1, y2, .inr ⟨by omega, y4⟩⟩
  have l30 : ∀ (v : Int32), flB A N (wkM A N S m) m N.q v → ∀ (q x : Nat) (g : ah_T), x + q = N.n → cyF h g → cyK h g → tmN g0 A g → cNS N (wkM A N S m) fr' g → s52 A N (wkM A N S m) m x g → Wp mX3_step Q 0 0 30 [some (.ref 43), some (.int (nI m)), some (.int v), some (.int (nI x))] [] g := by
    intro v hv q
    induction q with
    | zero =>
      intro x g hx f k tg ng s5
      have e9 : x = N.n := by omega
      subst e9
      refine T_X3_step_30 f.1 _ _ _ ?_
      rw [(cyK_d k d).2.2.1]
      (first | refine ⟨fun _ => ?_, fun n_ => absurd (show nI N.n ≤ nI N.n from nI_le (by omega) (by omega)) n_⟩ | refine ⟨fun n_ => absurd (show nI N.n ≤ nI N.n from nI_le (by omega) (by omega)) n_, fun _ => ?_⟩ | refine ⟨fun y_ => absurd y_ (show nI N.n ≤ nI N.n from nI_le (by omega) (by omega)), fun _ => ?_⟩ | refine ⟨fun _ => ?_, fun y_ => absurd y_ (show nI N.n ≤ nI N.n from nI_le (by omega) (by omega))⟩)
      refine l73 N.n 0 g v (by omega) f k tg ng s5 (fun i hi => (hv i hi).trans ?_)
      exact ⟨fun y => ⟨y.1, y.2.1, .inl y.2.2⟩, fun y => ⟨y.1, y.2.1, y.2.2.elim id (fun z => absurd z.1 (by omega))⟩⟩
    | succ q ih =>
      intro x g hx f k tg ng s5
      have hx2 : x < N.n := by omega
      have dg := cyK_d k d
      have vx : vp_in (nI x) 10 := (vp_nI (by omega)).mpr (by omega)
      have bx := ng.2.2.1 x (by omega)
      -- a row is laid
      have st : ∀ (g2 : ah_T) (w : Int32), cyF h g2 → cyK h g2 → tmN g0 A g2 → cNS N (wkM A N S m) fr' g2 → s52 A N (wkM A N S m) m x g2 → ((wkM A N S m).bu x = true → sbB A N (wkM A N S m) m x w) → ((wkM A N S m).bu x = false → w = 0) → Wp mX3_step Q 0 0 30 [some (.ref 43), some (.int (nI m)), some (.int v), some (.int (nI (x + 1)))] [] (ah_si g2 52 x w) := by
        intro g2 w f2 k2 t2 n2 s2 w1 w2
        have c2 : ceN g2 (ah_si g2 52 x w) := ceN_s (by omega) (ceN_r f2.1)
        refine ih (x + 1) _ (by omega) (cyF_t f2 (cyF_e c2)) (cyK_s (by omega) k2) (tmO_n c2 t2) (cNS_fr (fun a ha j => ah_i_sn (by omega)) (fun j hj => ah_i_sn (by omega)) n2) (fun j hj => ?_)
        by_cases u : j = x
        · subst u
          rw [ah_i_ss]
          exact ⟨w1, w2⟩
        · rw [ah_i_sn (by omega)]
          exact s2 j (by omega)
      refine T_X3_step_30 f.1 _ _ _ ?_
      rw [dg.2.2.1]
      (first | refine ⟨fun _ => ?_, fun n_ => absurd (show ¬ nI N.n ≤ nI x from nI_ge (by omega) (by omega)) n_⟩ | refine ⟨fun n_ => absurd (show ¬ nI N.n ≤ nI x from nI_ge (by omega) (by omega)) n_, fun _ => ?_⟩ | refine ⟨fun y_ => absurd y_ (show ¬ nI N.n ≤ nI x from nI_ge (by omega) (by omega)), fun _ => ?_⟩ | refine ⟨fun _ => ?_, fun y_ => absurd y_ (show ¬ nI N.n ≤ nI x from nI_ge (by omega) (by omega))⟩)
      rw [nI_1, nI_clamp (show x < 2 ^ 31 by omega), b_bit _ x (by omega), sh_n f.1 52 10 (by decide) (by decide) rfl]
      refine ⟨fun z => ?_, fun z => ⟨vx, ?_⟩⟩
      · have bt1 : bt (ah_i g 43 5) x = true := by cases e : bt (ah_i g 43 5) x; exact absurd e z; rfl
        have b1 := (bx.mp bt1).2
        refine c_shunnedBy f.1 tg dg ng rfl rfl hx2 b1 hm (fun g2 w f2 t2 hw => ⟨_, rfl, f2.1, ?_⟩)
        rw [sh_n f2.1 52 10 (by decide) (by decide) rfl]
        refine ⟨vx, ?_⟩
        rintro h27 rfl
        refine st g2 w (cyF_t f (cyF_m f2)) (cyK_t k (cyK_m f2)) t2 (tmF_s f2 ng) (fun j hj => ?_) (fun _ => hw) (fun y => by rw [b1] at y; exact absurd y (by decide))
        rw [(f2.2.2.1 52 (by decide) (by decide) (by decide) (by decide) (by decide) (by decide) (by decide)).1]
        exact s5 j hj
      · rintro h31 rfl
        refine st g 0 f k tg ng s5 (fun y => ?_) (fun _ => rfl)
        have := bx.mpr ⟨hx2, y⟩
        rw [z] at this
        exact absurd this (by decide)
  have flee : ∀ (P : Prop), P ∨ True → Mt mX3_fleeing [.ref 43, .int (nI m)] g1 (ab_qi fun v10 h8 => Sh h8 ∧ Wp mX3_step Q 0 0 30 [some (.ref 43), some (.int (nI m)), some (.int v10), some (.int 0)] [] h8) := by
    intro _ _
    refine c_fleeing c1.1 t1 d1 n1 rfl hm (fun g2 v f2 t2 hv => ⟨_, rfl, f2.1, ?_⟩)
    exact l30 v hv N.n 0 g2 (by omega) (cyF_t f1 (cyF_m f2)) (cyK_t k1 (cyK_m f2)) t2 (tmF_s f2 n1) (fun j hj => absurd hj (by omega))
  refine c_stirred c1.1 l0 (fun v6 a6 b6 => ⟨_, rfl, c1.1, fun _ => flee True (.inr trivial), fun z6 => ?_⟩)
  refine c_moved c1.1 l0 d1 rfl hm (fun v13 h13 => ⟨_, rfl, c1.1, fun z13 => ?_, fun _ => flee True (.inr trivial)⟩)
  have nobody : ∀ l, l < N.n → goM A N S m l = false := by
    refine quiet l0 qi cv ?_ (h13 z13)
    by_cases y : bt (usd g1 0) 5 = true
    · refine .inl ⟨y, fun l hl => ?_⟩
      cases e : (wkM A N S m).bu l
      · rfl
      · have := (m3 l (by omega)).mpr ⟨hl, e⟩
        rw [← a6 y, z6, b_0] at this
        exact absurd this (by decide)
    · refine .inr ⟨y, fun l hl e => ?_⟩
      cases e2 : fr' l
      · rfl
      · have b1 := (m3 l (by omega)).mpr ⟨hl, e⟩
        have b2 := (m5 l (by omega)).mpr ⟨hl, e2⟩
        have b3 : bt (ah_i g1 43 6 &&& ah_i g1 43 5) l = true := by rw [b_and, b1, b2]; rfl
        rw [← b6 y, z6, b_0] at b3
        exact absurd b3 (by decide)
  refine fin g1 0 fr' f1 k1 t1 n1 (fun i hi => ?_)
  rw [b_0]
  refine ⟨fun y => absurd y (by decide), fun y => ?_⟩
  rw [nobody i y.1] at y
  exact absurd y.2 (by decide)
end CT
