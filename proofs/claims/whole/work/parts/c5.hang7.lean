/-! ===== hang on both sides: the relation ===== -/
section HZ
variable {KX : ah_T → Prop} {RX WX SX : (Nat → Nat) → ah_T → Prop} {A : Nat → Nat} {h g u : ah_T} {s k w m r i j a b n c g0 : Nat}
theorem ly_y {x : Int32} {N : Nat} (hN31 : N < 2 ^ 31) : ¬ f_X12_lies x (nI 1) (nI N) = 0 ↔ ∃ s, 0 < s ∧ s ≤ N ∧ x = nI s := by
  unfold f_X12_lies
  constructor
  · intro y
    by_cases z : x < nI 1
    · rw [if_pos z] at y; exact absurd rfl y
    · rw [if_neg z] at y
      by_cases z2 : nI N < x
      · rw [if_pos z2] at y; exact absurd rfl y
      · have x0 : ¬ x < 0 := fun q => z (by
          have a := Int32.lt_iff_toInt_lt.mp q
          have e0 : (0 : Int32).toInt = 0 := rfl
          rw [e0] at a
          refine Int32.lt_iff_toInt_lt.mpr ?_
          rw [nI_toInt (by omega)]
          omega)
        obtain ⟨s, s31, rfl⟩ := nI_of3 x0
        rw [nI_ltI s31 (by omega)] at z
        rw [nI_ltI hN31 s31] at z2
        exact ⟨s, by omega, by omega, rfl⟩
  · rintro ⟨s, h1, h2, rfl⟩
    rw [if_neg (nI_nlt (by omega) (by omega)), if_neg (nI_nlt h2 (by omega))]
    decide
theorem ab_y2 {x : Int32} {K M : Nat} (hK : K ≤ 12) (hM : M ≤ 12) : ¬ f_X11_areBits x (nI K) (nI M) = 0 ↔ ∃ s, 0 < s ∧ s < 2 ^ K ∧ x = nI s ∧ hN s ≤ M := by
  have p2 : 2 ^ K ≤ 2 ^ 12 := Nat.pow_le_pow_right (by decide) hK
  unfold f_X11_areBits
  rw [nI_1sh (show K < 32 by omega)]
  constructor
  · intro y
    by_cases z : x ≤ 0
    · rw [if_pos z] at y; exact absurd rfl y
    · rw [if_neg z] at y
      by_cases z2 : nI (2 ^ K) ≤ x
      · rw [if_pos z2] at y; exact absurd rfl y
      · rw [if_neg z2] at y
        have x0 : ¬ x < 0 := fun q => z (by
          have a := Int32.lt_iff_toInt_lt.mp q
          exact Int32.le_iff_toInt_le.mpr (by omega))
        obtain ⟨s, s31, rfl⟩ := nI_of3 x0
        rw [n_0, nI_leI s31 (by omega)] at z
        rw [nI_leI (by omega) s31] at z2
        rw [bc_20 (show s < 2 ^ 20 by omega)] at y
        have n20 := hN_le s
        by_cases z3 : nI M < nI (cb (fun i => s.testBit i) 20)
        · rw [if_pos z3] at y; exact absurd rfl y
        · have z4 : ¬ nI M < nI (hN s) := z3
          rw [nI_ltI (by omega) (by omega)] at z4
          exact ⟨s, by omega, by omega, rfl, by omega⟩
  · rintro ⟨s, h1, h2, rfl, h4⟩
    have n20 := hN_le s
    rw [bc_20 (show s < 2 ^ 20 by omega)]
    have z3 : ¬ nI M < nI (cb (fun i => s.testBit i) 20) := by
      show ¬ nI M < nI (hN s)
      exact nI_nlt h4 (by omega)
    rw [if_neg (show ¬ nI s ≤ 0 from nI_ge (a := 0) h1 (by omega)), if_neg (nI_ge h2 (by omega)), if_neg z3]
    decide
theorem rel_hang (X : XP KX RX WX) (hW : hWp KX RX) (hS : SXp SX) (K : KRp KX RX) (W : Wp1 WX hgX Chg) (x1 x2 x3 x4 x5 : Int32) : lw_RC (Inv TXm (CCg KX RX WX) (CMg SX) (n + 1)) (Inv TXm (CCg KX RX WX) (CMg SX) n) mX11_hang mX12_hang [.int x1, .int x2, .int x3, .int x4, .int x5] := by
  intro h hI
  obtain ⟨hs, A, p⟩ := pre_of hI
  -- the model
  have mod : ∀ (g : ah_T) (v : Int32), Sh g → preQ KX RX WX SX n A g → ((∃ s k w m i, hgV s k w m ∧ 0 < w ∧ i < 2 + hN s ∧ x1 = nI s ∧ x2 = nI k ∧ x3 = nI w ∧ x4 = nI m ∧ x5 = nI i ∧ hA A s k w m x5 v) ∨ (v = -1 ∧ ¬ ∃ s k w m i, hgV s k w m ∧ 0 < w ∧ i < 2 + hN s ∧ x1 = nI s ∧ x2 = nI k ∧ x3 = nI w ∧ x4 = nI m ∧ x5 = nI i)) → Mt mX12_hang [.ref 82, .int x1, .int x2, .int x3, .int x4, .int x5] g (ab_qi fun w h2 => v = w ∧ Inv TXm (CCg KX RX WX) (CMg SX) n h2) := by
    intro g v sg pg rv
    have mq := mQs_p pg
    have mt := mq.2.2.1
    -- behind what touches only its own rows
    have fin : ∀ (u : ah_T), Sh u → ah_x u = ah_x g → (∀ a, (a < 82 ∨ (83 ≤ a ∧ a ≤ 88) ∨ 122 ≤ a ∨ (109 ≤ a ∧ a ≤ 111)) → eqc g u a) → (∀ j, j ≠ 20 → j ≠ 21 → j ≠ 22 → j ≠ 23 → j ≠ 29 → ah_i u 82 j = ah_i g 82 j) → mKn A u → Inv TXm (CCg KX RX WX) (CMg SX) n u := fun u su xu eu e82 ku =>
      inv_md X hW hS pg ⟨su, xu, fun a ha => eu a (by omega), fun j hj => e82 j (by omega) (by omega) (by omega) (by omega) (by omega)⟩ ku (mNg_e (fun a ha => (eu a (by omega)).1) (e82 49 (by decide) (by decide) (by decide) (by decide) (by decide)) (e82 1 (by decide) (by decide) (by decide) (by decide) (by decide)) pg.2.2.2.2.2.2.1) (.inl (e82 49 (by decide) (by decide) (by decide) (by decide) (by decide)))
    have done : v = -1 → (ab_qi fun w h2 => v = w ∧ Inv TXm (CCg KX RX WX) (CMg SX) n h2) (some (.int (-1))) g := fun e => ⟨_, rfl, e, fin g sg rfl (fun _ _ => eqc_rfl) (fun _ _ _ _ _ _ => rfl) mq.2.1⟩
    have bad : (¬ ∃ s k w m i, hgV s k w m ∧ 0 < w ∧ i < 2 + hN s ∧ x1 = nI s ∧ x2 = nI k ∧ x3 = nI w ∧ x4 = nI m ∧ x5 = nI i) → v = -1 := fun no => by
      rcases rv with ⟨s, k, w, m, i, a1, a2, a3, a4, a5, a6, a7, a8, _⟩ | ⟨e, _⟩
      · exact absurd ⟨s, k, w, m, i, a1, a2, a3, a4, a5, a6, a7, a8⟩ no
      · exact e
    refine T_X12_hang sg _ _ _ _ _ ?_
    have l1 := ly_y (x := x1) (N := 4095) (by decide)
    have l2 := ly_y (x := x2) (N := 63) (by decide)
    have l3 := ly_y (x := x3) (N := 4095) (by decide)
    have no1 : ∀ {y : Int32} {N : Nat}, f_X12_lies y (nI 1) (nI N) = 0 → N < 2 ^ 31 → ∀ s, 0 < s → s ≤ N → ¬ y = nI s := fun e hN s h1 h2 h3 => (ly_y hN).mpr ⟨s, h1, h2, h3⟩ e
    refine ⟨fun y => T_X12_hang_40 sg (done (bad ?_)), fun y1 => ⟨fun y => T_X12_hang_40 sg (done (bad ?_)), fun y2 => ⟨fun y => T_X12_hang_40 sg (done (bad ?_)), fun y3 => ⟨fun y4 => ?_, fun y => T_X12_hang_40 sg (done (bad ?_))⟩⟩⟩⟩
    · rintro ⟨s, k, w, m, i, V, a2, a3, a4, _⟩
      exact no1 (N := 4095) y (by decide) s V.1 (by have := V.2.1; omega) a4
    · rintro ⟨s, k, w, m, i, V, a2, a3, a4, a5, _⟩
      exact no1 (N := 63) y (by decide) k V.2.2.2.1 (by have := V.2.2.2.2.1; omega) a5
    · rintro ⟨s, k, w, m, i, V, a2, a3, a4, a5, a6, _⟩
      exact no1 (N := 4095) y (by decide) w a2 (by have := V.2.2.2.2.2.2.1; omega) a6
    rotate_left
    · rintro ⟨s, k, w, m, i, V, a2, a3, a4, a5, a6, a7, _⟩
      rw [q_minute, a7] at y
      exact q_is0 (n := 120) (by decide) V.2.2.2.2.2.2.2 y
    obtain ⟨s, s1, s2, e1⟩ := l1.mp y1
    obtain ⟨k, k1, k2, e2⟩ := l2.mp y2
    obtain ⟨w, w1, w2, e3⟩ := l3.mp y3
    rw [q_minute] at y4
    obtain ⟨m, hm, e4⟩ := q_isn (n := 120) (by decide) y4
    subst e1 e2 e3 e4
    have uq : ∀ {a b : Nat}, a < 4096 → b < 4096 → nI a = nI b → a = b := fun ha hb e => by rwa [nI_eq (by omega) (by omega)] at e
    have ns20 := hN_le s
    have nk20 := hN_le k
    refine m_bitsTo sg (.inl ⟨rfl, rfl⟩) rfl rfl (by omega) (fun g1 f1 x1' eg1 r1 => ⟨_, rfl, f1, ?_⟩)
    refine m_bitsTo f1 (.inr ⟨rfl, rfl⟩) rfl rfl (by omega) (fun g2 f2 x2' eg2 r2 => ⟨_, rfl, f2, ?_⟩)
    have E2 : ∀ a, a ≠ 117 → a ≠ 120 → eqc g g2 a := fun a n1 n2 => eqc_trans (eg1 a n1) (eg2 a n2)
    have k2n : mKn A g2 := mKn_e (fun a ha => (E2 a (by omega) (by omega)).1) ((E2 82 (by decide) (by decide)).1 29) ((E2 82 (by decide) (by decide)).1 1) mq.2.1
    have done2 : v = -1 → (ab_qi fun w h2 => v = w ∧ Inv TXm (CCg KX RX WX) (CMg SX) n h2) (some (.int (-1))) g2 := fun e => ⟨_, rfl, e, fin g2 f2 (by rw [x2', x1']) (fun a ha => E2 a (by omega) (by omega)) (fun j _ _ _ _ _ => (E2 82 (by decide) (by decide)).1 j) k2n⟩
    rw [n_6, n_3, nI_ltI (show 6 < 2 ^ 31 by omega) (show hN s < 2 ^ 31 by omega), nI_ltI (show 3 < 2 ^ 31 by omega) (show hN k < 2 ^ 31 by omega)]
    refine ⟨fun y => T_X12_hang_91 f2 (done2 (bad ?_)), fun z1 => ⟨fun y => T_X12_hang_91 f2 (done2 (bad ?_)), fun z2 => ⟨fun y5 => ?_, fun y => T_X12_hang_91 f2 (done2 (bad ?_))⟩⟩⟩
    · rintro ⟨s', k', w', m', i, V, a2, a3, a4, _⟩
      have := uq (by omega) V.2.1 a4
      subst this
      have := V.2.2.1
      omega
    · rintro ⟨s', k', w', m', i, V, a2, a3, a4, a5, _⟩
      have := uq (by omega) (by have := V.2.2.2.2.1; omega) a5
      subst this
      have := V.2.2.2.2.2.1
      omega
    rotate_left
    · rintro ⟨s', k', w', m', i, V, a2, a3, a4, a5, a6, a7, a8⟩
      have := uq (by omega) V.2.1 a4
      subst this
      unfold f_X12_lies at y
      rw [a8, n_1, nI_add, if_neg (nI_pos (by omega)), if_neg (nI_nlt (by omega) (by omega))] at y
      exact absurd y (by decide)
    have V : hgV s k w m := ⟨s1, by omega, by omega, k1, by omega, by omega, by omega, hm⟩
    have hx5 : ∃ i, i ≤ hN s + 1 ∧ x5 = nI i := by
      unfold f_X12_lies at y5
      by_cases q1 : x5 < 0
      · rw [if_pos q1] at y5; exact absurd rfl y5
      · obtain ⟨i, i31, ei⟩ := nI_of3 q1
        rw [if_neg q1, n_1, nI_add] at y5
        by_cases q2 : nI (1 + hN s) < x5
        · rw [if_pos q2] at y5; exact absurd rfl y5
        · rw [ei, nI_ltI (by omega) i31] at q2
          exact ⟨i, by omega, ei⟩
    obtain ⟨i5, hi5, ei5⟩ := hx5
    have hv : hA A s k w m x5 v := by
      rcases rv with ⟨s', k', w', m', i, V', a2, a3, a4, a5, a6, a7, a8, a9⟩ | ⟨_, no⟩
      · have := uq (by omega) V'.2.1 a4
        subst this
        have := uq (by omega) (by have := V'.2.2.2.2.1; omega) a5
        subst this
        have := uq (by omega) (by have := V'.2.2.2.2.2.2.1; omega) a6
        subst this
        have := uq (by omega) (by have := V'.2.2.2.2.2.2.2; omega) a7
        subst this
        exact a9
      · exact absurd ⟨s, k, w, m, i5, V, w1, by omega, rfl, rfl, rfl, rfl, ei5⟩ no
    have e84 : ∀ j, ah_i g2 84 j = ah_i g 84 j := (E2 84 (by decide) (by decide)).1
    have mw2 : mWy A g2 := by
      have := mt.1
      unfold mWy at this ⊢
      simp only [e84]
      exact this
    have mw3 := mt.2.1
    refine m_shutNow f2 mw2.1 mw2.2.1 (fun w hw => by rw [e84]; exact mw3 w hw) (fun x hx => ⟨_, rfl, f2, ?_⟩)
    refine m_measures (s := fun v => v < A 245 ∧ A (3 * v + 2) = 1) (.inr rfl) f2 mw2 x (fun v hv => ?_) (fun g3 s3 x3' e3 d3 => ⟨rfl, s3, ?_⟩)
    · rw [isIn_bt _ (show v < 32 by omega)]
      have q := hx v (by omega)
      cases t : bt x v
      · exact ⟨fun _ z => by rw [q.mpr z] at t; exact absurd t (by decide), fun _ => rfl⟩
      · exact ⟨fun z => absurd z (by decide), fun z => absurd (q.mp t) z⟩
    have d3' : ∀ x y, x < 12 → y < 12 → dst (Ew A (shS A)) x y (ah_i g3 99 (12 * x + y)) := fun x y hx hy => by
      have := d3 x y hx hy
      have e : Ew A (fun v => v < A 245 ∧ A (3 * v + 2) = 1) = Ew A (shS A) := by
        refine funext fun a => funext fun b => propext ?_
        constructor
        · rintro ⟨v, q1, q2, q3⟩
          exact ⟨v, q1, fun z => q2 ⟨q1, z⟩, q3⟩
        · rintro ⟨v, q1, q2, q3⟩
          exact ⟨v, q1, fun z => q2 z.2, q3⟩
      rw [e] at this
      exact this
    have q3 : mhO A s k g3 := ⟨mLw_fr (fun j => by rw [(e3 84 (by decide)).1, e84]) mq.1, mKn_e (fun a ha => (e3 a (by omega)).1) ((e3 82 (by decide)).1 29) ((e3 82 (by decide)).1 1) k2n, d3', fun i hi => by rw [(e3 117 (by decide)).1, (eg2 117 (by decide)).1]; exact r1 (by omega) i hi, fun i hi => by rw [(e3 120 (by decide)).1]; exact r2 (by omega) i hi⟩
    refine m_hangRun s3 V q3 ⟨i5, hi5, ei5⟩ (fun u v' fu mu hv' => ⟨_, rfl, hA_u hv hv', fin u fu.1 (by rw [fu.2.1, x3', x2', x1']) (fun a ha => ?_) (fun j n1 n2 n3 n4 n5 => ?_) mu.2.1⟩)
    · exact eqc_trans (E2 a (by omega) (by omega)) (eqc_trans (e3 a (by omega)) (fu.2.2.1 a (by omega) (by omega) (by omega) (by omega) (by omega) (by omega) (by omega)))
    · rw [fu.2.2.2 j n1 n2 n3 n4 n5, (e3 82 (by decide)).1, (E2 82 (by decide) (by decide)).1]
  -- the class
  have b1 := ab_y2 (x := x1) (K := 12) (M := 6) (by omega) (by omega)
  have b2 := ab_y2 (x := x2) (K := 6) (M := 3) (by omega) (by omega)
  have b3 := ab_y2 (x := x3) (K := 12) (M := 12) (by omega) (by omega)
  have out : (¬ ∃ s k w m i, hgV s k w m ∧ 0 < w ∧ i < 2 + hN s ∧ x1 = nI s ∧ x2 = nI k ∧ x3 = nI w ∧ x4 = nI m ∧ x5 = nI i) → (ab_qi fun v h1 => Sh h1 ∧ Mt mX12_hang [.ref 82, .int x1, .int x2, .int x3, .int x4, .int x5] h1 (ab_qi fun w h2 => v = w ∧ Inv TXm (CCg KX RX WX) (CMg SX) n h2)) (some (.int (-1))) h := fun no => ⟨_, rfl, hs, mod h (-1) hs (preQ_less p) (.inr ⟨rfl, no⟩)⟩
  refine T_X11_hang hs _ _ _ _ _ ⟨fun y => out ?_, fun y1 => ⟨fun y => out ?_, fun y2 => ⟨fun y => out ?_, fun y3 => ⟨fun y => out ?_, fun y4 => ⟨fun y5 => ?_, fun y => out ?_⟩⟩⟩⟩⟩
  · rintro ⟨s, k, w, m, i, V, a2, a3, a4, _⟩
    exact b1.mpr ⟨s, V.1, V.2.1, a4, V.2.2.1⟩ y
  · rintro ⟨s, k, w, m, i, V, a2, a3, a4, a5, _⟩
    exact b2.mpr ⟨k, V.2.2.2.1, V.2.2.2.2.1, a5, V.2.2.2.2.2.1⟩ y
  · rintro ⟨s, k, w, m, i, V, a2, a3, a4, a5, a6, _⟩
    exact b3.mpr ⟨w, a2, V.2.2.2.2.2.2.1, a6, by rw [hN_bd (K := 12) V.2.2.2.2.2.2.1 (by omega)]; exact cb_le _ _⟩ y
  · rintro ⟨s, k, w, m, i, V, a2, a3, a4, a5, a6, a7, _⟩
    rw [a7] at y
    exact q_is0 (n := 120) (by decide) V.2.2.2.2.2.2.2 y
  rotate_left
  · rintro ⟨s, k, w, m, i, V, a2, a3, a4, a5, a6, a7, a8⟩
    have n20 := hN_le s
    rw [a4, bc_20 (show s < 2 ^ 20 by have := V.2.1; omega), a8] at y
    have y' : f_X11_isIn (nI i) (nI 2 + nI (hN s)) = 0 := y
    rw [nI_add] at y'
    exact q_is0 (by omega) a3 y'
  obtain ⟨s, s1, s2, e1, s4⟩ := b1.mp y1
  obtain ⟨k, k1, k2, e2, k4⟩ := b2.mp y2
  obtain ⟨w, w1, w2, e3, w4⟩ := b3.mp y3
  obtain ⟨m, hm, e4⟩ := q_isn (n := 120) (by decide) y4
  have n20 := hN_le s
  have V : hgV s k w m := ⟨s1, by omega, s4, k1, by omega, k4, by omega, hm⟩
  have hx5 : ∃ i, i < 2 + hN s ∧ x5 = nI i := by
    rw [e1, bc_20 (show s < 2 ^ 20 by omega)] at y5
    have y' : ¬ f_X11_isIn x5 (nI 2 + nI (hN s)) = 0 := y5
    rw [nI_add] at y'
    exact q_isn (by omega) y'
  obtain ⟨i5, hi5, ei5⟩ := hx5
  refine lk1 hs X hS p (fun h6 g' s6 p6 lk6 pq => ?_)
  refine c_findHang s6 lk6.1 (W.1 _ _ lk6.2.2.2.2.1) V e1 e2 e3 e4 (fun g fg cg kg rg => ⟨rfl, fg.1, ?_⟩)
  have lg := lkO_hg K W fg cg (.inr ⟨s, k, w, m, V, kg, rg⟩) lk6
  have pg := pq g ⟨fg.1, fg.2.1, fun a n => fg.2.2.1 a (by omega), fun j _ _ => (fg.2.2.1 0 (by omega)).1 j⟩ lg
  obtain ⟨r1, r2, r3⟩ := rg
  have fin2 : ∀ v, hA A s k w m x5 v → (ab_qi fun v h1 => Sh h1 ∧ Mt mX12_hang [.ref 82, .int x1, .int x2, .int x3, .int x4, .int x5] h1 (ab_qi fun w h2 => v = w ∧ Inv TXm (CCg KX RX WX) (CMg SX) n h2)) (some (.int v)) g := fun v hv => ⟨_, rfl, fg.1, mod g v fg.1 pg (.inl ⟨s, k, w, m, i5, V, w1, hi5, e1, e2, e3, e4, ei5, hv⟩)⟩
  obtain ⟨F, eF⟩ : ∃ F, F = hF A s k w m (hC k ^ hN s) := ⟨_, rfl⟩
  have fb := hF_in A s k w m (hC k ^ hN s)
  have pN := pw_46 (c := hC k) (n := hN s) (by have := hC_e k; omega) s4
  rw [r1, r2]
  refine ⟨fun z => ⟨fun y => ?_, fun y => ?_⟩, fun z => fin2 _ (.inl ⟨z, rfl⟩)⟩
  · have w0 : (hF A s k w m (hC k ^ hN s)).2.1 ≠ 0 := fun t => y (by rw [t]; rfl)
    refine ⟨fun x0 => ?_, fun x0 => fin2 _ (.inr (.inr (.inl ⟨z, w0, x0, rfl⟩)))⟩
    have i2 : 2 ≤ i5 := by
      rcases (show i5 = 0 ∨ i5 = 1 ∨ 2 ≤ i5 by omega) with t | t | t
      · exact absurd (by rw [ei5, t]; rfl) x0
      · exact absurd (by rw [ei5, t]; rfl) z
      · exact t
    have e5 : x5 - 2 = nI (i5 - 2) := by rw [ei5, n_2, nI_sub i2]
    rw [e5, nI_clamp (show i5 - 2 < 2 ^ 31 by omega), r3 w0 (i5 - 2) (by omega), sh_n fg.1 75 6 (by decide) (by decide) rfl]
    exact ⟨(vp_nI (by omega)).mpr (by omega), fin2 _ (.inr (.inr (.inr ⟨z, w0, i5 - 2, by omega, by rw [ei5]; congr 1; omega, rfl⟩)))⟩
  · have w0 : (hF A s k w m (hC k ^ hN s)).2.1 = 0 := by rwa [n_0, nI_eq (by omega) (by omega)] at y
    exact fin2 _ (.inr (.inl ⟨z, w0, rfl⟩))
end HZ
