/-! ===== the light: the class's ===== -/
/-- cells of the class's chronicle and what stands under it -/
def chF (h h' : ah_T) : Prop := Sh h' ∧ ah_x h' = ah_x h ∧ (∀ a, (a < 26 ∨ (28 < a ∧ a < 35) ∨ (35 < a ∧ a < 39) ∨ a = 58 ∨ a = 60 ∨ 60 < a) → eqc h h' a) ∧ (∀ j, j ≠ 9 → ah_i h' 54 j = ah_i h 54 j) ∧ (wB h → wB h')
/-- the class's night as it is, and all that it asks -/
def cor (g0 : Nat) (A : Nat → Nat) (h : ah_T) : Prop := cTw A h ∧ tmN g0 A h ∧ cND A (nd0 A) 0 h ∧ stO A h ∧ cWs A h
section CL3
variable {A : Nat → Nat} {h g h1 : ah_T} {g0 : Nat}
theorem chF_r (hs : Sh h) : chF h h := ⟨hs, rfl, fun _ _ => eqc_rfl, fun _ _ => rfl, fun w => w⟩
theorem chF_t (p : chF h g) (q : chF g h1) : chF h h1 := ⟨q.1, by rw [q.2.1, p.2.1], fun a n => eqc_trans (p.2.2.1 a n) (q.2.2.1 a n), fun j n => by rw [q.2.2.2.1 j n, p.2.2.2.1 j n], fun w => q.2.2.2.2 (p.2.2.2.2 w)⟩
theorem chF_y (p : cyF h g) : chF h g := ⟨p.1, p.2.1, fun a n => p.2.2.1 a (by omega), fun j _ => (p.2.2.1 54 (by omega)).1 j, p.2.2.2⟩
theorem chF_m (p : tmF h g) : chF h g := chF_y (cyF_m p)
theorem chF_s {a j : Nat} {x : Int32} (o : a = 35 ∨ a = 55 ∨ a = 56 ∨ a = 57 ∨ a = 59 ∨ (a = 54 ∧ j = 9)) (p : chF h g) : chF h (ah_si g a j x) := ⟨sh_si p.1, by rw [ah_x_si, p.2.1], fun b n => eqc_si (p.2.2.1 b n) (by omega), fun i n => by rw [ah_i_sn (by omega)]; exact p.2.2.2.1 i n, fun w => wB_of (fun j => ah_i_sn (by omega)) (p.2.2.2.2 w)⟩
theorem stO_fr (e : ∀ a, (a = 30 ∨ a = 31 ∨ a = 33 ∨ a = 34 ∨ a = 35) → ∀ j, ah_i g a j = ah_i h a j) (s : stO A h) : stO A g := by
  obtain ⟨s1, s2, s3, s4, s5⟩ := s
  exact ⟨fun c hc i hi => by rw [e 30 (by omega)]; exact s1 c hc i hi, fun c hc i hi => by rw [e 31 (by omega)]; exact s2 c hc i hi, fun x y hx hy => by rw [e 33 (by omega)]; exact s3 x y hx hy, fun x y hx hy => by rw [e 34 (by omega)]; exact s4 x y hx hy, fun c r hc hr => by rw [e 35 (by omega)]; exact s5 c r hc hr⟩
theorem cor_e (e : ∀ a, (a < 35 ∨ (35 < a ∧ a < 54) ∨ 60 < a) → eqc h g a) (hs : Sh g) (hx : ah_x g = ah_x h) (s : stO A g) (c : cor g0 A h) : cor g0 A g := by
  obtain ⟨c1, c2, c3, c4, c5⟩ := c
  have ei : ∀ a, (a < 35 ∨ (35 < a ∧ a < 54) ∨ 60 < a) → ∀ j, ah_i g a j = ah_i h a j := fun a n => (e a n).1
  refine ⟨cTw_fr (fun a ha => ei a (by omega)) c1, ?_, cND_fr (fun a ha => ei a (by omega)) (fun j _ => ei 43 (by omega) j) c3, s, cWs_fr (e 2 (by omega)) (e 3 (by omega)) c5⟩
  obtain ⟨t1, t2, t3, t4, t5, t6⟩ := c2
  have us : ∀ what, usd g what = usd h what := by
    intro what
    unfold usd
    rw [(e 38 (by omega)).2.2.1]
    cases z : ah_r h 38 3 with
    | none => rfl
    | some x =>
      have := lw_123 t1.1 z
      exact ei (x + 3) (by omega) what
  refine ⟨tp_fr (e 38 (by omega)) (e 39 (by omega)).2.1 (fun a ha => e a (by omega)) (Nat.le_of_eq hx.symm) t1, t2, wB_of (ei 27 (by omega)) t3, ?_, sgO_fr (ei 34 (by omega)) t5, lmO_fr (ei 4 (by omega)) (ei 5 (by omega)) t6⟩
  unfold hfO at t4 ⊢
  simp only [us, ei 40 (by omega), ei 41 (by omega), ei 42 (by omega)]
  exact t4
theorem cor_m (f : tmF h g) (t : tmN g0 A g) (c : cor g0 A h) : cor g0 A g := by
  obtain ⟨c1, c2, c3, c4, c5⟩ := c
  have e : ∀ a, a ≠ 26 → a ≠ 27 → a ≠ 28 → a ≠ 39 → a ≠ 40 → a ≠ 41 → a ≠ 42 → ∀ j, ah_i g a j = ah_i h a j := fun a n1 n2 n3 n4 n5 n6 n7 => (f.2.2.1 a n1 n2 n3 n4 n5 n6 n7).1
  exact ⟨cTw_fr (fun a ha => e a (by omega) (by omega) (by omega) (by omega) (by omega) (by omega) (by omega)) c1, t, tmF_n f c3, stO_fr (fun a ha => e a (by omega) (by omega) (by omega) (by omega) (by omega) (by omega) (by omega)) c4, cWs_fr (f.2.2.1 2 (by decide) (by decide) (by decide) (by decide) (by decide) (by decide) (by decide)) (f.2.2.1 3 (by decide) (by decide) (by decide) (by decide) (by decide) (by decide) (by decide)) c5⟩
theorem Ew_12 (c : cWs A h) : ∀ x y, Ew A (shS A) x y → x < 12 ∧ y < 12 := Ew_in (fun v hv => ⟨(c.1.2.2.2 v hv).2.2.1, (c.1.2.2.2 v hv).2.2.2⟩)
theorem c_within {Q : Option Value → ah_T → Prop} (hs : Sh h) (s : stO A h) (cw : cWs A h) {c r : Nat} {x1 x2 : Int32} (e1 : x1 = nI c) (e2 : x2 = nI r) (hc : c < 12) (hr : r < 10) (hq : ∀ h' v, Sh h' → ah_x h' = ah_x h → (∀ a, a ≠ 35 → eqc h h' a) → stO A h' → ballO (Ew A (shS A)) c r v → Q (some (.int v)) h') : Mt mX6_within [.ref 29, .int x1, .int x2] h Q := by
  subst e1 e2
  have q1 : ¬ f_X11_isIn (nI c) 12 = 0 := q_is0 (n := 12) (by decide) hc
  have q2 : ¬ f_X11_isIn (nI r) 10 = 0 := q_is0 (n := 10) (by decide) hr
  have c1 : nI c * 10 + nI r = nI (10 * c + r) := by rw [n_10, nI_mul, nI_add]; congr 1; omega
  have vp : vp_in (nI (10 * c + r)) 120 := (vp_nI (by omega)).mpr (by omega)
  have n35 : ah_n h 35 = 120 := sh_n hs 35 120 (by decide) (by decide) rfl
  have hE := Ew_12 cw
  obtain ⟨s1, s2, s3, s4, s5⟩ := s
  have lp : ∀ (q x : Nat) (v : Int32), x + q = 12 → (∀ i, i < 32 → (bt v i = true ↔ i < x ∧ ∃ n, n ≤ r ∧ lst (Ew A (shS A)) c i n)) → Wp mX6_within Q 0 0 43 [some (.ref 29), some (.int (nI c)), some (.int (nI r)), some (.int (nI (10 * c + r))), some (.int v), some (.int (nI x)), none] [] h := by
    intro q
    induction q with
    | zero =>
      intro x v hx hv
      have e9 : x = 12 := by omega
      subst e9
      have bl : ballO (Ew A (shS A)) c r v := fun i hi => (hv i hi).trans ⟨fun y => y.2, fun y => ⟨by obtain ⟨n, _, w⟩ := y; exact wk_in hE hc w.1, y⟩⟩
      refine T_X6_within_43 hs _ _ _ _ _ ?_
      (first | refine ⟨fun _ => ?_, fun n_ => absurd (show 12 ≤ nI 12 from nI_le (a := 12) (by omega) (by omega)) n_⟩ | refine ⟨fun n_ => absurd (show 12 ≤ nI 12 from nI_le (a := 12) (by omega) (by omega)) n_, fun _ => ?_⟩ | refine ⟨fun y_ => absurd y_ (show 12 ≤ nI 12 from nI_le (a := 12) (by omega) (by omega)), fun _ => ?_⟩ | refine ⟨fun _ => ?_, fun y_ => absurd y_ (show 12 ≤ nI 12 from nI_le (a := 12) (by omega) (by omega))⟩)
      rw [nI_clamp (show 10 * c + r < 2 ^ 31 by omega), n35]
      refine ⟨vp, ?_⟩
      rintro h8 rfl
      rw [ah_n_si, n35, ah_i_ss]
      refine ⟨vp, hq _ v (sh_si hs) (ah_x_si _ _ _ _) (fun a n => eqc_si eqc_rfl n) ⟨fun c hc i hi => by rw [ah_i_sn (by omega)]; exact s1 c hc i hi, fun c hc i hi => by rw [ah_i_sn (by omega)]; exact s2 c hc i hi, fun x y hx hy => by rw [ah_i_sn (by omega)]; exact s3 x y hx hy, fun x y hx hy => by rw [ah_i_sn (by omega)]; exact s4 x y hx hy, fun c' r' hc' hr' => ?_⟩ bl⟩
      rw [ah_i_si]
      by_cases z : 10 * c' + r' = 10 * c + r
      · rw [if_pos ⟨rfl, z⟩]
        have z1 : c' = c := by omega
        have z2 : r' = r := by omega
        rw [z1, z2]
        exact .inr bl
      · rw [if_neg (fun y => z y.2)]
        exact s5 c' r' hc' hr'
    | succ q ih =>
      intro x v hx hv
      have hx2 : x < 12 := by omega
      have d := s4 c x hc hx2
      refine T_X6_within_43 hs _ _ _ _ _ ?_
      (first | refine ⟨fun _ => ?_, fun n_ => absurd (show ¬ 12 ≤ nI x from nI_ge (b := 12) (by omega) (by omega)) n_⟩ | refine ⟨fun n_ => absurd (show ¬ 12 ≤ nI x from nI_ge (b := 12) (by omega) (by omega)) n_, fun _ => ?_⟩ | refine ⟨fun y_ => absurd y_ (show ¬ 12 ≤ nI x from nI_ge (b := 12) (by omega) (by omega)), fun _ => ?_⟩ | refine ⟨fun _ => ?_, fun y_ => absurd y_ (show ¬ 12 ≤ nI x from nI_ge (b := 12) (by omega) (by omega))⟩)
      rw [f_sight hc hx2, nI_1]
      refine ⟨v_sight hs hc hx2, fun z => ?_, fun z => ⟨fun y => ?_, fun y => ?_⟩⟩
      · have no : ¬ ∃ n, n ≤ r ∧ lst (Ew A (shS A)) c x n := by
          rintro ⟨n, _, w⟩
          rcases d with ⟨_, d⟩ | ⟨k, d, _, _⟩
          · exact d n w.1
          · rw [d] at z; exact nI_m1 (by omega) z
        refine ih (x + 1) v (by omega) (fun i hi => (hv i hi).trans ⟨fun y => ⟨by omega, y.2⟩, fun y => ⟨?_, y.2⟩⟩)
        by_cases u : i = x
        · subst u; exact absurd y.2 no
        · have := y.1; omega
      · have no : ¬ ∃ n, n ≤ r ∧ lst (Ew A (shS A)) c x n := by
          rintro ⟨n, w1, w⟩
          rcases d with ⟨d, _⟩ | ⟨k, d, dk, d2⟩
          · exact z d
          · rw [d, nI_ltI (by omega) (by omega)] at y
            have := lst_u w d2
            omega
        refine ih (x + 1) v (by omega) (fun i hi => (hv i hi).trans ⟨fun y => ⟨by omega, y.2⟩, fun y => ⟨?_, y.2⟩⟩)
        by_cases u : i = x
        · subst u; exact absurd y.2 no
        · have := y.1; omega
      · have yes : ∃ n, n ≤ r ∧ lst (Ew A (shS A)) c x n := by
          rcases d with ⟨d, _⟩ | ⟨k, d, dk, d2⟩
          · exact absurd d z
          · rw [d, nI_geI (by omega) (by omega)] at y
            exact ⟨k, y, d2⟩
        refine ih (x + 1) _ (by omega) (fun i hi => ?_)
        rw [b_or, b_1sh (by omega) hi, Bool.or_eq_true, decide_eq_true_eq, hv i hi]
        constructor
        · rintro (u | u)
          · exact ⟨by omega, u.2⟩
          · subst u; exact ⟨by omega, yes⟩
        · intro u
          by_cases w : i = x
          · exact .inr w
          · exact .inl ⟨by omega, u.2⟩
  refine T_X6_within hs _ _ ?_
  (first | refine ⟨fun _ => ?_, fun n_ => absurd (q1) n_⟩ | refine ⟨fun n_ => absurd (q1) n_, fun _ => ?_⟩ | refine ⟨fun y_ => absurd y_ (q1), fun _ => ?_⟩ | refine ⟨fun _ => ?_, fun y_ => absurd y_ (q1)⟩)
  (first | refine ⟨fun _ => ?_, fun n_ => absurd (q2) n_⟩ | refine ⟨fun n_ => absurd (q2) n_, fun _ => ?_⟩ | refine ⟨fun y_ => absurd y_ (q2), fun _ => ?_⟩ | refine ⟨fun _ => ?_, fun y_ => absurd y_ (q2)⟩)
  rw [c1, nI_clamp (show 10 * c + r < 2 ^ 31 by omega), n35]
  refine ⟨vp, fun z => ⟨vp, hq h _ hs rfl (fun _ _ => eqc_rfl) ⟨s1, s2, s3, s4, s5⟩ ((s5 c r hc hr).resolve_left z)⟩, fun _ => lp 12 0 0 (by omega) (fun i hi => ?_)⟩
  rw [b_0]
  exact ⟨fun y => absurd y (by decide), fun y => absurd y.1 (by omega)⟩
/-- what a ball says, told by sights -/
theorem ball_re (cw : cWs A h) {l k m a : Nat} {v : Int32} (ha : a < 12) (b : ballO (Ew A (shS A)) a (rchA A l k m) v) (i : Nat) (hi : i < 32) : bt v i = true ↔ i < 12 ∧ reB A l k m a i = true := by
  rw [b i hi]
  unfold reB
  rw [decide_eq_true_eq]
  have hE := Ew_12 cw
  constructor
  · rintro ⟨n, y1, y2⟩
    refine ⟨wk_in hE ha y2.1, ?_⟩
    have ex : ∃ n, lst (Ew A (shS A)) a i n := ⟨n, y2⟩
    have e : sgN A a i = n + 1 := by
      unfold sgN
      rw [dif_pos ex, lst_u (Classical.choose_spec ex) y2]
    rw [e]
    omega
  · rintro ⟨_, y1, y2⟩
    by_cases ex : ∃ n, lst (Ew A (shS A)) a i n
    · refine ⟨Classical.choose ex, ?_, Classical.choose_spec ex⟩
      have e : sgN A a i = Classical.choose ex + 1 := by
        unfold sgN
        rw [dif_pos ex]
      rw [e] at y2
      omega
    · have e : sgN A a i = 0 := by
        unfold sgN
        rw [dif_neg ex]
      exact absurd e y1
theorem c_shine {Q : Option Value → ah_T → Prop} (hs : Sh h) (c : cor g0 A h) {l k a m : Nat} {x1 x2 x3 x4 : Int32} (e1 : x1 = nO l) (e2 : x2 = nI k) (e3 : x3 = nI a) (e4 : x4 = nI m) (hl : l < 11) (hk : k < 6) (ha : a < 12) (hm : m < 120)
    (hq : ∀ h' v, chF h h' → cor g0 A h' → (∀ j, (j = 55 ∨ j = 56 ∨ j = 57 ∨ j = 59) → eqc h h' j) → ah_i h' 54 9 = ah_i h 54 9 → (∀ i, i < 32 → (bt v i = true ↔ i < 12 ∧ reB A l k m a i = true)) → Q (some (.int v)) h') : Mt mX0_shine [.ref 54, .int x1, .int x2, .int x3, .int x4] h Q := by
  subst e1 e2 e3 e4
  have tm := c.2.1
  have l1 : (nO l).toInt = (l : Int) - 1 := by
    cases l with
    | zero => rfl
    | succ l => rw [nO_s, nI_toInt (by omega)]; omega
  refine T_X0_shine hs _ _ _ _ (c_ask hs tm.1 tm.2.1 tm.2.2.1 (what := 1) (w := wQ ((l : Int) - 1) k (-1) (-1) (-1) m (A 242) (A 244)) rfl (by omega) l1 (nI_toInt (by omega)) rfl rfl rfl (nI_toInt (by omega)) rfl rfl (wQ_rg ⟨by omega, by omega⟩ ⟨by omega, by omega⟩ ⟨by omega, by omega⟩ ⟨by omega, by omega⟩ ⟨by omega, by omega⟩ ⟨by omega, by omega⟩) (fun g1 f1 tp1 => ⟨_, rfl, f1.1, ?_⟩))
  have t1 := tm_ask f1 tp1 tm
  have c1 := cor_m (tmF_ak f1) t1 c
  have er : ansA (lawL A) 1 (wQ ((l : Int) - 1) k (-1) (-1) (-1) m (A 242) (A 244)) = rchA A l k m := by
    unfold ansA rchA
    rw [if_neg (by decide)]
  have r9 := rchA_le A l k m
  rw [er]
  refine c_within f1.1 c1.2.2.2.1 c1.2.2.2.2 rfl rfl ha (by omega) (fun g2 v s2 x2 e2 st2 bl => ⟨_, rfl, s2, ?_⟩)
  have f2 : chF g1 g2 := ⟨s2, x2, fun b n => e2 b (by omega), fun j _ => (e2 54 (by omega)).1 j, wB_of (e2 27 (by omega)).1⟩
  refine hq g2 v (chF_t (chF_m (tmF_ak f1)) f2) (cor_e (fun b n => e2 b (by omega)) s2 x2 st2 c1) (fun j hj => eqc_trans ((tmF_ak f1).2.2.1 j (by omega) (by omega) (by omega) (by omega) (by omega) (by omega) (by omega)) (e2 j (by omega))) ?_ (ball_re c1.2.2.2.2 ha bl)
  rw [(e2 54 (by omega)).1, ((tmF_ak f1).2.2.1 54 (by decide) (by decide) (by decide) (by decide) (by decide) (by decide) (by decide)).1]
end CL3
