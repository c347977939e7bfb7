/-! ===== who has drunk: both sides ===== -/
section DK3
variable {KX : ah_T → Prop} {RX WX SX : (Nat → Nat) → ah_T → Prop} {A : Nat → Nat} {h g h1 u w : ah_T} {g0 n c seed k N : Nat} {p : Nat → Nat}
theorem lk3 {K : ah_T → Prop} (hs : Sh h) (X : XP KX RX WX) (hS : SXp SX) (p : preQ KX RX WX SX (n + 1) A h) (hk : ∀ h6 g', loF h h6 → preQ KX RX WX SX n A h6 → lkO KX RX WX g' A h6 → K h6) : Mt mX11_look [.ref 0] h (ab_qv fun h3 => Sh h3 ∧ K h3) := by
  have p' := p
  obtain ⟨⟨B0, B1, d, D, wf, tn, _⟩, cc, cm⟩ := p'
  obtain ⟨G, hG, hG2⟩ := gen_of p
  refine c_look hs X wf tn cc hG hG2 (fun h1 g' f1 hg' lk => ⟨rfl, f1.1, ?_⟩)
  exact hk h1 g' f1 (preQ_lk hS p hG f1 hg' lk) lk
theorem tmN_w (e : ∀ a, ((1 ≤ a ∧ a < 19) ∨ (26 < a ∧ a < 43) ∨ 123 ≤ a) → eqc h g a) (hx : ah_x g = ah_x h) (t : tmN g0 A h) : tmN g0 A g := by
  obtain ⟨t1, t2, t3, t4, t5, t6⟩ := t
  have ei : ∀ a, ((1 ≤ a ∧ a < 19) ∨ (26 < a ∧ a < 43) ∨ 123 ≤ a) → ∀ j, ah_i g a j = ah_i h a j := fun a n => (e a n).1
  have us : ∀ what, usd g what = usd h what := by
    intro what
    unfold usd
    rw [(e 38 (by omega)).2.2.1]
    cases z : ah_r h 38 3 with
    | none => rfl
    | some x =>
      have := lw_123 t1.1 z
      exact ei (x + 3) (by omega) what
  refine ⟨tp_fr (e 38 (by omega)) (e 39 (by omega)).2.1 (fun a ha => e a (by omega)) (Nat.le_of_eq hx.symm) t1, t2, wB_of (ei 27 (by omega)) t3, ?_, sgO_fr (ei 34 (by omega)) t5, lmO_fr (ei 4 (by omega)) (ei 5 (by omega)) t6⟩
  unfold hfO at t4 ⊢
  simp only [us, ei 40 (by omega), ei 41 (by omega), ei 42 (by omega)]
  exact t4
theorem lkO_w (X : XP KX RX WX) (hx : ah_x g = ah_x h) (e : ∀ a, ((1 ≤ a ∧ a < 19) ∨ (28 < a ∧ a < 39) ∨ 53 < a) → eqc h g a) (e18 : ah_i g 0 18 = ah_i h 0 18) (e19 : ah_i g 0 19 = ah_i h 0 19) (t : tmN g0 A g) (d : cND A (nd0 A) 0 g) (l : lkO KX RX WX g0 A h) : lkO KX RX WX g0 A g := by
  obtain ⟨⟨l1, l2, l3, l4, l5⟩, o, kx, r, wx, f18, f19⟩ := l
  have ei : ∀ a, ((1 ≤ a ∧ a < 19) ∨ (28 < a ∧ a < 39) ∨ 53 < a) → ∀ j, ah_i g a j = ah_i h a j := fun a n => (e a n).1
  have xf : XF h g := XF_of (Nat.le_of_eq hx.symm) (fun a ha => e a (by omega)) (fun j _ => ei 54 (by omega) j)
  refine ⟨⟨?_, t, d, stO_fr (fun a ha => ei a (by omega)) l4, cWs_fr (e 2 (by omega)) (e 3 (by omega)) l5⟩, ?_, X.1 _ _ xf kx, X.2.1 _ _ _ xf kx r, X.2.2.1 _ _ _ xf kx wx, by rw [e18]; exact f18, by rw [e19]; exact f19⟩
  · obtain ⟨⟨a1, a2, a3, a4⟩, ⟨b1, b2, b3, b4⟩, ⟨q1, q2, q3, q4⟩, d1, d2⟩ := l1
    refine ⟨⟨by rw [ei 4 (by omega)]; exact a1, by rw [ei 4 (by omega)]; exact a2, a3, fun j hj => by rw [ei 5 (by omega)]; exact a4 j hj⟩, ⟨by rw [ei 6 (by omega)]; exact b1, by rw [ei 6 (by omega)]; exact b2, b3, fun j hj => by rw [ei 7 (by omega)]; exact b4 j hj⟩, ⟨by rw [ei 8 (by omega)]; exact q1, by rw [ei 8 (by omega)]; exact q2, q3, fun l hl => ?_⟩, by rw [ei 14 (by omega)]; exact d1, d2⟩
    obtain ⟨r1, r2, r3, r4, r5⟩ := q4 l hl
    exact ⟨by rw [ei 9 (by omega)]; exact r1, by rw [ei 9 (by omega)]; exact r2, by rw [ei 9 (by omega)]; exact r3, by rw [ei 9 (by omega)]; exact r4, fun i hi => by rw [ei 9 (by omega)]; exact r5 i hi⟩
  unfold chO at o ⊢
  rw [ei 54 (by omega)]
  rcases o with y | ⟨y, r, l⟩
  · exact .inl y
  · exact .inr ⟨y, chR_fr (fun b hb => ei b (by omega)) r, chL_fr (ei 59 (by omega)) l⟩
theorem bsO_d (hx : ah_x h ≤ ah_x g) (f3 : ∀ a, ((1 ≤ a ∧ a < 26 ∧ a ≠ 19) ∨ (83 ≤ a ∧ a ≤ 88) ∨ (123 ≤ a ∧ a < ah_x h)) → eqc h g a) (f4 : ∀ j, j ≠ 17 → j ≠ 18 → j ≠ 19 → ah_i g 0 j = ah_i h 0 j) (f5 : ∀ j, (j = 6 ∨ j = 11 ∨ j = 12 ∨ j = 66) → ah_i g 82 j = ah_i h 82 j) (e0 : ah_i g 0 17 = ah_i g 82 0) (dr : Dr g) (b : bsO A h) : bsO A g := by
  obtain ⟨B0, B1, d, D, b1, b2, b3, ⟨s1, s2, s3, s4, s5, s6, s7, s8, s9⟩, ⟨t1, t2, t3, t4⟩, b6⟩ := b
  refine ⟨B0, B1, d, D, b1, ?_, ?_, ?_, ?_, dr⟩
  · exact Tn_fr b1 TXmp (fun i hi => f3 _ (by omega)) (f3 84 (by omega)) (fun x h1 _ h2 i hi => f3 _ (by omega)) hx b2
  · exact Im_fr TXmp (fun a h1 h2 => f3 a (by omega)) (f3 16 (by omega)) (f3 85 (by omega)) (f3 86 (by omega)) hx b3
  · have e18 := (f3 18 (by omega)).1
    have e83 := (f3 83 (by omega)).1
    exact ⟨e0, by rw [e18, e83]; exact s2, by rw [e18, e83]; exact s3, by rw [e18, e83]; exact s4, by rw [e18, e83]; exact s5, by rw [e18, e83]; exact s6, by rw [f4 15 (by decide) (by decide) (by decide), f5 6 (by omega)]; exact s7, by rw [f4 14 (by decide) (by decide) (by decide), f5 12 (by omega)]; exact s8, by rw [f4 16 (by decide) (by decide) (by decide), f5 66 (by omega)]; exact s9⟩
  · exact ⟨t1, by rw [f4 13 (by decide) (by decide) (by decide)]; exact t2, by rw [f5 11 (by omega)]; exact t3, fun j hj => by rw [(f3 17 (by omega)).1, (f3 88 (by omega)).1]; exact t4 j hj⟩
theorem c_litWith {Q : Option Value → ah_T → Prop} (hs : Sh h) (t : cTw A h) (tm : tmN g0 A h) (d : cND A (nd0 A) 0 h) (hk : k < 6) (ep : ∀ m, m < 120 → ah_i h 19 m = nO (p m) ∧ p m ≤ 12) {x1 : Int32} (e1 : x1 = nI k)
    (hq : ∀ g, cyF h g → tmN g0 A g → cND A (nd0 A) 0 g → Q (some (.int (nI (ct (litM A (ndC A k p)) (A 246) 120)))) g) : Mt mX1_litWith [.ref 62, .int x1, .ref 19] h Q := by
  subst e1
  have h10 := t.1.2.2.1.1
  have k19 : ∀ {u : ah_T}, Sh u → ah_k u 19 = 14 := fun hs => sh_k hs 19 14 (by decide) rfl
  refine T_X1_litWith hs _ 19 (k19 hs) ?_
  refine c_carry hs t d rfl hk rfl (.inl rfl) ep (fun g1 c1 d1 _ _ => ⟨rfl, c1.1, k19 c1.1, ?_⟩)
  refine c_begin c1.1 (cTw_n c1 t) (tmO_n c1 tm) d1 (fun g2 c2 rn _ => ⟨rfl, c2.1, k19 c2.1, ?_⟩)
  refine c_litFrom c2.1 rn (m0 := 0) (till := 120) (bound := 1201) rfl rfl rfl (by omega) (by omega) (by omega) (fun g3 x hx1 hx2 o f3 k3 rn3 => ⟨_, rfl, f3.1, k19 f3.1, ?_⟩)
  have x120 : x = 120 := by
    rcases o with o | o
    · exact o
    · have a := ct_le (litM A (ndC A k p)) (ndC A k p).n x
      have b : x * (ndC A k p).n ≤ 120 * 10 := Nat.mul_le_mul (by omega) h10
      omega
  subst x120
  obtain ⟨t3, tm3, d3⟩ := cRn_c rn3
  refine c_dismissN f3.1 t3 d3 (fun g4 c4 d4 _ => ⟨rfl, c4.1, k19 c4.1, ?_⟩)
  exact hq g4 (cyF_t (cyF_e c1) (cyF_t (cyF_e c2) (cyF_t f3 (cyF_e c4)))) (tmO_n c4 tm3) d4
/-- the model's draws and where they led -/
def drF (h g : ah_T) : Prop := Sh g ∧ ah_x g = ah_x h ∧ (∀ a, a ≠ 82 → a ≠ 122 → eqc h g a) ∧ (∀ j, j ≠ 77 → j ≠ 78 → ah_i g 82 j = ah_i h 82 j) ∧ (ah_i h 82 77 = 1 → ah_i g 82 77 = 1)
theorem drF_s {a j : Nat} {x : Int32} (o : a = 122 ∨ (a = 82 ∧ ((j = 77 ∧ x = 1) ∨ j = 78))) (f : drF h g) : drF h (ah_si g a j x) := ⟨sh_si f.1, by rw [ah_x_si, f.2.1], fun b n1 n2 => eqc_si (f.2.2.1 b n1 n2) (by omega), fun i n1 n2 => by rw [ah_i_sn (by omega)]; exact f.2.2.2.1 i n1 n2, fun y => by
    by_cases z : a = 82 ∧ j = 77
    · obtain ⟨rfl, rfl⟩ := z
      rw [ah_i_ss]
      rcases o with o | ⟨_, o | o⟩
      · omega
      · exact o.2
      · omega
    · rw [ah_i_sn (by omega)]; exact f.2.2.2.2 y⟩
theorem mQs_d (f : drF h g) (q : mQs A h) : mQs A g := by
  obtain ⟨b1, b2, b3, b4⟩ := q
  have e : ∀ a, a ≠ 82 → a ≠ 122 → ∀ j, ah_i g a j = ah_i h a j := fun a n1 n2 => (f.2.2.1 a n1 n2).1
  exact ⟨mLw_fr (e 84 (by decide) (by decide)) b1, mKn_e (fun a ha => e a (by omega) (by omega)) (f.2.2.2.1 29 (by decide) (by decide)) (f.2.2.2.1 1 (by decide) (by decide)) b2, mTw_fr (e 84 (by decide) (by decide)) b3, mSw_fr (e 84 (by decide) (by decide)) b4⟩
theorem m_drunk {Q : Option Value → ah_T → Prop} (hs : Sh g) (mq : mQs A g) (wf : wfW A) (h10 : A 246 ≤ 10) (hd : seed ≤ 1000003) (hk : k < 6) (hc : c < 12) (hN : N ≤ 60) (e78 : ah_i g 82 78 = nI seed) (e122 : ah_i g 122 0 = nI c)
    (hq : ∀ v3 v, drF g v3 → lyF v3 v → mQs A v → ah_i v 82 49 = -1 → (∀ j, j < 120 → ah_i v 122 j = nI (dk A N seed c j).2) → ah_i v 82 47 = nI (ct (litM A (ndC A k (fun m => (dk A N seed c m).2 + 1))) (A 246) 120) → Mt mX12_good [.ref 82, .int (ah_i v 82 47)] v (ab_qi fun v57 h55 => Sh h55 ∧ Q (some (.int v57)) h55)) :
    Wp mX12_drunk Q 0 0 61 [some (.ref 82), none, some (.int (nI k)), none, some (.int (nI N)), some (.int (nI 1))] [] g := by
  have n122 : ∀ {u : ah_T}, Sh u → ah_n u 122 = 120 := fun hs => sh_n hs 122 120 (by decide) (by decide) rfl
  have lp : ∀ (q j : Nat) (u : ah_T), j + 1 + q = 120 → drF g u → ah_i u 82 78 = nI (dk A N seed c j).1 → (∀ i, i ≤ j → ah_i u 122 i = nI (dk A N seed c i).2) → Wp mX12_drunk Q 0 0 61 [some (.ref 82), none, some (.int (nI k)), none, some (.int (nI N)), some (.int (nI (j + 1)))] [] u := by
    intro q
    induction q with
    | zero =>
      intro j u hj f i78 t
      have e9 : j = 119 := by omega
      subst e9
      have mu := mQs_d f mq
      refine T_X12_drunk_61 f.1 _ _ _ ?_
      (first | refine ⟨fun _ => ?_, fun n_ => absurd (show 120 ≤ nI (119 + 1) from nI_le (a := 120) (by omega) (by omega)) n_⟩ | refine ⟨fun n_ => absurd (show 120 ≤ nI (119 + 1) from nI_le (a := 120) (by omega) (by omega)) n_, fun _ => ?_⟩ | refine ⟨fun y_ => absurd y_ (show 120 ≤ nI (119 + 1) from nI_le (a := 120) (by omega) (by omega)), fun _ => ?_⟩ | refine ⟨fun _ => ?_, fun y_ => absurd y_ (show 120 ≤ nI (119 + 1) from nI_le (a := 120) (by omega) (by omega))⟩)
      refine m_looks f.1 mu.2.2.1 (fun g1 f1 d1 => ⟨rfl, f1.1, ?_⟩)
      have w2 := mu.2.2.1.2.2.2.2.2.2.1.1
      have e42 : ah_i g1 82 42 = nI (A 248) := d1.2.2.1
      rw [e42, nI_clamp (show A 248 < 2 ^ 31 by omega), sh_n f1.1 108 3 (by decide) (by decide) rfl]
      refine ⟨(vp_nI (by omega)).mpr (by omega), ?_⟩
      intro h2 q2
      have f2 : lkF u h2 := by rw [q2]; exact lkF_s (by omega) f1
      have e122' : ∀ i, i < 120 → ah_i g1 122 i = nI (dk A N seed c i).2 := fun i hi => by rw [(f1.2.2.1 122 (by decide) (by decide) (by decide) (by decide) (by decide) (by decide)).1]; exact t i (by omega)
      have lt12 : ∀ i, (dk A N seed c i).2 < 12 := fun i => (dk_lt (n := N) wf hc hd i).2
      have l130 : ∀ (q x : Nat) (v : ah_T), x + q = 120 → lkF u v → (∀ a, a ≠ 107 → ∀ i, ah_i v a i = ah_i h2 a i) → (∀ i, i < 120 * A 248 → ah_i v 107 i = ah_i h2 107 i) → (∀ i, i < x → ah_i v 107 (120 * A 248 + i) = nI (dk A N seed c i).2) → Wp mX12_drunk Q 0 0 130 [some (.ref 82), none, none, none, none, some (.int (nI x))] [] v := by
        intro q
        induction q with
        | zero =>
          intro x v hx fv ev ei ex
          have e9 : x = 120 := by omega
          subst e9
          refine T_X12_drunk_130 fv.1 _ ?_
          (first | refine ⟨fun _ => ?_, fun n_ => absurd (show 120 ≤ nI 120 from nI_le (a := 120) (by omega) (by omega)) n_⟩ | refine ⟨fun n_ => absurd (show 120 ≤ nI 120 from nI_le (a := 120) (by omega) (by omega)) n_, fun _ => ?_⟩ | refine ⟨fun y_ => absurd y_ (show 120 ≤ nI 120 from nI_le (a := 120) (by omega) (by omega)), fun _ => ?_⟩ | refine ⟨fun _ => ?_, fun y_ => absurd y_ (show 120 ≤ nI 120 from nI_le (a := 120) (by omega) (by omega))⟩)
          rw [ev 82 (by decide), q2, ah_i_sn (by omega), e42, nI_1]
          rintro h49 rfl
          have d49 : mND A (ndC A k (fun m => (dk A N seed c m).2 + 1)) (ah_si v 82 42 (nI (A 248 + 1))) := by
            refine mND_C w2 hk (fun x _ => lt12 x) d1 (fun a ha x => ?_) ?_ ?_ ?_ (fun x hx => ?_) ?_ (fun x hx => ?_) (fun x hx => ?_)
            · rw [ah_i_sn (by omega), ev a (by omega), q2, ah_i_sn (by omega)]
            · rw [ah_i_sn (by omega), ev 82 (by omega), q2, ah_i_sn (by omega)]
            · rw [ah_i_sn (by omega), ev 82 (by omega), q2, ah_i_sn (by omega)]
            · rw [ah_i_ss]
            · rw [ah_i_sn (by omega), ev 108 (by omega), q2, ah_i_sn (by omega)]
            · rw [ah_i_sn (by omega), ev 108 (by omega), q2, ah_i_ss]
            · rw [ah_i_sn (by omega), ei x hx, q2, ah_i_sn (by omega)]
            · rw [ah_i_sn (by omega), ex x hx, nO_s]
          have f49 : lkF u (ah_si v 82 42 (nI (A 248 + 1))) := lkF_s (by omega) fv
          refine m_tries f49.1 (mBa_l f49 d49 (Nat.le_refl _) mu) (by show A 246 ≤ A 246 + 1; omega) (fun g3 M f3 b3 hM t3 k7 k8 o e49' ej => ⟨rfl, f3.1, ?_⟩)
          have eM : M = 120 := by
            rcases o with o | o
            · exact o
            · exact absurd rfl o.1
          subst eM
          have ly := lyF_t (lyF_l f49) f3
          refine hq u g3 f ly (mQ_b ly b3 mu) e49' (fun j hj => ?_) k7
          rw [(ly.2.2.1 122 (by decide) (by decide) (by omega)).1]
          exact t j (by omega)
        | succ q ih =>
          intro x v hx fv ev ei ex
          have v107 : vp_in (nI (120 * A 248 + x)) (ah_n v 107) := by rw [sh_n fv.1 107 360 (by decide) (by decide) rfl]; exact (vp_nI (by omega)).mpr (by omega)
          refine T_X12_drunk_130 fv.1 _ ?_
          (first | refine ⟨fun _ => ?_, fun n_ => absurd (show ¬ 120 ≤ nI x from nI_ge (b := 120) (by omega) (by omega)) n_⟩ | refine ⟨fun n_ => absurd (show ¬ 120 ≤ nI x from nI_ge (b := 120) (by omega) (by omega)) n_, fun _ => ?_⟩ | refine ⟨fun y_ => absurd y_ (show ¬ 120 ≤ nI x from nI_ge (b := 120) (by omega) (by omega)), fun _ => ?_⟩ | refine ⟨fun _ => ?_, fun y_ => absurd y_ (show ¬ 120 ≤ nI x from nI_ge (b := 120) (by omega) (by omega))⟩)
          rw [ev 82 (by decide), q2, ah_i_sn (by omega), e42, n_120, nI_mul, nI_add, nI_1, nI_clamp (show 120 * A 248 + x < 2 ^ 31 by omega), nI_clamp (show x < 2 ^ 31 by omega), n122 fv.1]
          refine ⟨(vp_nI (by omega)).mpr (by omega), v107, ?_⟩
          rintro h60 rfl
          refine ih (x + 1) _ (by omega) (lkF_s (by omega) fv) (fun a n1 i => by rw [ah_i_sn (by omega)]; exact ev a n1 i) (fun i hi => by rw [ah_i_sn (by omega)]; exact ei i hi) (fun i hi => ?_)
          by_cases z : i = x
          · rw [z, ah_i_ss, ev 122 (by decide), q2, ah_i_sn (by omega)]
            exact e122' x (by omega)
          · rw [ah_i_sn (by omega)]; exact ex i (by omega)
      exact l130 120 0 h2 (by omega) f2 (fun _ _ _ => rfl) (fun _ _ => rfl) (fun i hi => absurd hi (by omega))
    | succ q ih =>
      intro j u hj f i78 t
      have mu := mQs_d f mq
      obtain ⟨l1, l2⟩ := dk_lt (n := N) wf hc hd j
      have vj : vp_in (nI (j + 1)) 120 := (vp_nI (by omega)).mpr (by omega)
      have vj' : vp_in (nI j) 120 := (vp_nI (by omega)).mpr (by omega)
      have s1 : nI (j + 1) - 1 = nI j := by rw [show (1 : Int32) = nI 1 from rfl, nI_sub (by omega)]; rfl
      have ds := dk_s (A := A) (n := N) (seed := seed) (c := c) j
      refine T_X12_drunk_61 f.1 _ _ _ ?_
      (first | refine ⟨fun _ => ?_, fun n_ => absurd (show ¬ 120 ≤ nI (j + 1) from nI_ge (b := 120) (by omega) (by omega)) n_⟩ | refine ⟨fun n_ => absurd (show ¬ 120 ≤ nI (j + 1) from nI_ge (b := 120) (by omega) (by omega)) n_, fun _ => ?_⟩ | refine ⟨fun y_ => absurd y_ (show ¬ 120 ≤ nI (j + 1) from nI_ge (b := 120) (by omega) (by omega)), fun _ => ?_⟩ | refine ⟨fun _ => ?_, fun y_ => absurd y_ (show ¬ 120 ≤ nI (j + 1) from nI_ge (b := 120) (by omega) (by omega))⟩)
      rw [s1, nI_clamp (show j + 1 < 2 ^ 31 by omega), nI_clamp (show j < 2 ^ 31 by omega), n122 f.1, t j (Nat.le_refl _), show nI (j + 1) + 1 = nI (j + 1 + 1) from nI_1 _]
      have nx : ∀ (y : ah_T) (v : ah_T), drF g y → ah_i y 82 78 = nI (dk A N seed c (j + 1)).1 → (∀ i, ah_i y 122 i = ah_i u 122 i) → v = ah_si y 122 (j + 1) (nI (dk A N seed c (j + 1)).2) → Wp mX12_drunk Q 0 0 61 [some (.ref 82), none, some (.int (nI k)), none, some (.int (nI N)), some (.int (nI (j + 1 + 1)))] [] v := by
        rintro y v fy ey e2 rfl
        refine ih (j + 1) _ (by omega) (drF_s (.inl rfl) fy) (by rw [ah_i_sn (by omega)]; exact ey) (fun i hi => ?_)
        by_cases z : i = j + 1
        · rw [z, ah_i_ss]
        · rw [ah_i_sn (by omega), e2]; exact t i (by omega)
      by_cases y : j + 1 ≤ N
      · rw [if_pos y] at ds
        (first | refine ⟨fun _ => ?_, fun n_ => absurd (show ¬ nI N < nI (j + 1) from nI_nlt y (by omega)) n_⟩ | refine ⟨fun n_ => absurd (show ¬ nI N < nI (j + 1) from nI_nlt y (by omega)) n_, fun _ => ?_⟩ | refine ⟨fun y_ => absurd y_ (show ¬ nI N < nI (j + 1) from nI_nlt y (by omega)), fun _ => ?_⟩ | refine ⟨fun _ => ?_, fun y_ => absurd y_ (show ¬ nI N < nI (j + 1) from nI_nlt y (by omega))⟩)
        refine ⟨vj', m_staggers f.1 mu.2.2.1.1 wf i78 l1 l2 rfl ⟨_, rfl, sh_si f.1, ?_⟩⟩
        rw [n122 (sh_si f.1)]
        refine ⟨vj, fun v ev => nx _ v (drF_s (.inr ⟨rfl, .inr rfl⟩) f) (by rw [ah_i_ss, ds]) (fun i => ah_i_sn (by omega)) (by rw [ds]; exact ev)⟩
      · rw [if_neg y] at ds
        (first | refine ⟨fun _ => ?_, fun n_ => absurd (show nI N < nI (j + 1) from nI_lt (by omega) (by omega)) n_⟩ | refine ⟨fun n_ => absurd (show nI N < nI (j + 1) from nI_lt (by omega) (by omega)) n_, fun _ => ?_⟩ | refine ⟨fun y_ => absurd y_ (show nI N < nI (j + 1) from nI_lt (by omega) (by omega)), fun _ => ?_⟩ | refine ⟨fun _ => ?_, fun y_ => absurd y_ (show nI N < nI (j + 1) from nI_lt (by omega) (by omega))⟩)
        exact ⟨vj', vj, fun v ev => nx u v f (by rw [ds]; exact i78) (fun _ => rfl) (by rw [ds]; exact ev)⟩
  exact lp 119 0 g (by omega) ⟨hs, rfl, fun _ _ _ => eqc_rfl, fun _ _ _ => rfl, fun y => y⟩ e78 (fun i hi => by rw [show i = 0 by omega]; exact e122)
end DK3
