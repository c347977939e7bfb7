/-! ===== would on both sides ===== -/
section WO
variable {KX : ah_T → Prop} {RX WX SX : (Nat → Nat) → ah_T → Prop} {A : Nat → Nat} {N : Nd} {h g h1 : ah_T} {g0 sp n : Nat} {P : Nat → Prop}
theorem lkF_s {a j : Nat} {x : Int32} (o : a = 99 ∨ a = 100 ∨ a = 101 ∨ a = 107 ∨ a = 108 ∨ (a = 82 ∧ (j = 41 ∨ j = 42 ∨ j = 43))) (p : lkF h g) : lkF h (ah_si g a j x) := ⟨sh_si p.1, by rw [ah_x_si, p.2.1], fun b n1 n2 n3 n4 n5 n6 => eqc_si (p.2.2.1 b n1 n2 n3 n4 n5 n6) (by omega), fun i n1 n2 n3 => by rw [ah_i_sn (by omega)]; exact p.2.2.2 i n1 n2 n3⟩
theorem mdF_s {j : Nat} {x : Int32} (o : 63 ≤ j ∧ j ≤ 65 ∨ (50 ≤ j ∧ j ≤ 59)) (p : mdF h g) : mdF h (ah_si g 82 j x) := ⟨sh_si p.1, by rw [ah_x_si, p.2.1], fun b n => eqc_si (p.2.2.1 b n) (by omega), fun i n => by rw [ah_i_sn (by omega)]; exact p.2.2.2 i n⟩
theorem mQs_2 {j : Nat} {x : Int32} (o : j ≠ 1 ∧ j ≠ 29) (q : mQs A h) : mQs A (ah_si h 82 j x) := by
  obtain ⟨b1, b2, b3, b4⟩ := q
  exact ⟨mLw_fr (fun i => ah_i_sn (by omega)) b1, mKn_e (fun a ha i => ah_i_sn (by omega)) (ah_i_sn (by omega)) (ah_i_sn (by omega)) b2, mTw_fr (fun i => ah_i_sn (by omega)) b3, mSw_fr (fun i => ah_i_sn (by omega)) b4⟩
theorem m_litOf {Q : Option Value → ah_T → Prop} (hs : Sh h) (nt : mNt A N 120 h) {l : Nat} {x1 : Int32} (e1 : x1 = nI l) (hl : l < N.n) (h10 : N.n ≤ 10) (hq : Q (some (.int (nI (cb (fun m => litM A N m l) 120)))) h) : Mt mX12_litOf [.ref 82, .int x1] h Q := by
  subst e1
  have lp : ∀ (q m : Nat), m + q = 120 → Wp mX12_litOf Q 0 0 4 [some (.ref 82), some (.int (nI l)), some (.int (nI (cb (fun m => litM A N m l) m))), some (.int (nI m))] [] h := by
    intro q
    induction q with
    | zero =>
      intro m hm
      have e9 : m = 120 := by omega
      subst e9
      refine T_X12_litOf_4 hs _ _ _ ?_
      (first | refine ⟨fun _ => ?_, fun n_ => absurd (show 120 ≤ nI 120 from nI_le (a := 120) (by omega) (by omega)) n_⟩ | refine ⟨fun n_ => absurd (show 120 ≤ nI 120 from nI_le (a := 120) (by omega) (by omega)) n_, fun _ => ?_⟩ | refine ⟨fun y_ => absurd y_ (show 120 ≤ nI 120 from nI_le (a := 120) (by omega) (by omega)), fun _ => ?_⟩ | refine ⟨fun _ => ?_, fun y_ => absurd y_ (show 120 ≤ nI 120 from nI_le (a := 120) (by omega) (by omega))⟩)
      exact hq
    | succ q ih =>
      intro m hm
      have d10 : (10 : Int32) * nI m + nI l = nI (10 * m + l) := by rw [n_10, nI_mul, nI_add]
      have sN : cb (fun m => litM A N m l) (m + 1) = cb (fun m => litM A N m l) m + (if litM A N m l = true then 1 else 0) := rfl
      refine T_X12_litOf_4 hs _ _ _ ?_
      (first | refine ⟨fun _ => ?_, fun n_ => absurd (show ¬ 120 ≤ nI m from nI_ge (b := 120) (by omega) (by omega)) n_⟩ | refine ⟨fun n_ => absurd (show ¬ 120 ≤ nI m from nI_ge (b := 120) (by omega) (by omega)) n_, fun _ => ?_⟩ | refine ⟨fun y_ => absurd y_ (show ¬ 120 ≤ nI m from nI_ge (b := 120) (by omega) (by omega)), fun _ => ?_⟩ | refine ⟨fun _ => ?_, fun y_ => absurd y_ (show ¬ 120 ≤ nI m from nI_ge (b := 120) (by omega) (by omega))⟩)
      rw [d10, show nI m + 1 = nI (m + 1) from nI_1 m, nI_clamp (show 10 * m + l < 2 ^ 31 by omega), (nt m (by omega) l hl).1, sh_n hs 109 1200 (by decide) (by decide) rfl, bI_0]
      refine ⟨(vp_nI (by omega)).mpr (by omega), fun z => ?_, fun z => ?_⟩
      · have := ih (m + 1) (by omega)
        rw [sN, z] at this
        rw [Int32.add_zero]
        exact this
      · have zt : litM A N m l = true := by cases e : litM A N m l; exact absurd e z; rfl
        have := ih (m + 1) (by omega)
        rw [sN, zt] at this
        rw [nI_1]
        exact this
  exact T_X12_litOf hs _ (lp 120 0 (by omega))
theorem mND_K {l k : Nat} (hl : l < A 246) (hk : k < 6) (m : mND A (nd0 A) g) : mND A (ndK A l k) (ah_si g 101 l (nI k)) := by
  obtain ⟨⟨d0, d1, d2, d3⟩, m2, m3, m4, m5, m6, m7⟩ := m
  refine ⟨⟨d0, fun x hx => ?_, d2, d3⟩, by rw [ah_i_sn (by omega)]; exact m2, by rw [ah_i_sn (by omega)]; exact m3, by rw [ah_i_sn (by omega)]; exact m4, fun x hx => ?_, fun x hx => ?_, fun x y hx hy => by rw [ah_i_sn (by omega)]; exact m7 x y hx hy⟩
  · have := d1 x hx
    refine ⟨this.1, ?_⟩
    show (if x = l then k else A (61 + 3 * x)) < 6
    split
    · exact hk
    · exact this.2
  · have := m5 x hx
    rw [ah_i_sn (by omega)]
    refine ⟨this.1, ?_⟩
    show _ = nI (if x = l then k else A (61 + 3 * x))
    by_cases z : x = l
    · rw [if_pos z, z, ah_i_ss]
    · rw [if_neg z, ah_i_sn (by omega)]; exact this.2
  · have := m6 x hx
    rw [ah_i_sn (by omega)]
    exact ⟨this.1, fun m hm => by rw [ah_i_sn (by omega)]; exact this.2 m hm⟩
/-- what trying leaves -/
def tyF (A : Nat → Nat) (h g : ah_T) : Prop := mdF h g ∧ mQs A g ∧ ah_i g 82 49 = -1
theorem m_wouldBe {Q : Option Value → ah_T → Prop} (hs : Sh h) (q : mQs A h) {l : Nat} {x1 : Int32} (e1 : x1 = nI l) (hl : l < A 246) (hq : ∀ g, tyF A h g → ah_i g 82 64 = nO (wdF A l 6).1 → ah_i g 82 63 = nI (wdF A l 6).2 → ah_i g 82 65 = nI (wS A l (A (61 + 3 * l))) → Q none g) : Mt mX12_wouldBe [.ref 82, .int x1] h Q := by
  subst e1
  have wl := q.2.2.1.2.2.2.1
  have w10 := wl.1
  obtain ⟨u1, u2, _⟩ := wl.2 l hl
  have vl : vp_in (nI l) 10 := (vp_nI (by omega)).mpr (by omega)
  have n101 : ∀ {g : ah_T}, Sh g → ah_n g 101 = 10 := fun hs => sh_n hs 101 10 (by decide) (by decide) rfl
  obtain ⟨own, eown⟩ : ∃ own, own = A (61 + 3 * l) := ⟨_, rfl⟩
  rw [← eown] at hq
  have l7 : ∀ (r k : Nat) (g : ah_T), k + r = 6 → mdF h g → mQs A g → (0 < k → ah_i g 82 49 = -1) → ah_i g 82 64 = nO (wdF A l k).1 → (0 < k → ah_i g 82 63 = nI (wdF A l k).2) → (own < k → ah_i g 82 65 = nI (wS A l own)) → Wp mX12_wouldBe Q 0 0 7 [some (.ref 82), some (.int (nI l)), some (.int (nI k)), none, none] [] g := by
    intro r
    induction r with
    | zero =>
      intro k g hk f mq k49 a64 a63 a65
      have e9 : k = 6 := by omega
      subst e9
      refine T_X12_wouldBe_7 f.1 _ _ ?_
      (first | refine ⟨fun _ => ?_, fun n_ => absurd (show 6 ≤ nI 6 from nI_le (a := 6) (by omega) (by omega)) n_⟩ | refine ⟨fun n_ => absurd (show 6 ≤ nI 6 from nI_le (a := 6) (by omega) (by omega)) n_, fun _ => ?_⟩ | refine ⟨fun y_ => absurd y_ (show 6 ≤ nI 6 from nI_le (a := 6) (by omega) (by omega)), fun _ => ?_⟩ | refine ⟨fun _ => ?_, fun y_ => absurd y_ (show 6 ≤ nI 6 from nI_le (a := 6) (by omega) (by omega))⟩)
      exact hq g ⟨f, mq, k49 (by omega)⟩ a64 (a63 (by omega)) (a65 (by omega))
    | succ r ih =>
      intro k g hk f mq k49 a64 a63 a65
      have hk6 : k < 6 := by omega
      refine T_X12_wouldBe_7 f.1 _ _ ?_
      (first | refine ⟨fun _ => ?_, fun n_ => absurd (show ¬ 6 ≤ nI k from nI_ge (b := 6) (by omega) (by omega)) n_⟩ | refine ⟨fun n_ => absurd (show ¬ 6 ≤ nI k from nI_ge (b := 6) (by omega) (by omega)) n_, fun _ => ?_⟩ | refine ⟨fun y_ => absurd y_ (show ¬ 6 ≤ nI k from nI_ge (b := 6) (by omega) (by omega)), fun _ => ?_⟩ | refine ⟨fun _ => ?_, fun y_ => absurd y_ (show ¬ 6 ≤ nI k from nI_ge (b := 6) (by omega) (by omega))⟩)
      refine m_looks f.1 mq.2.2.1 (fun g1 f1 d1 => ⟨rfl, f1.1, ?_⟩)
      have x101 : ah_i g1 101 l = nI own := by rw [eown]; exact (d1.2.2.2.2.1 l hl).2
      rw [nI_1, nI_clamp (show l < 2 ^ 31 by omega), x101, n101 f1.1, nI_eq (show own < 2 ^ 31 by omega) (show k < 2 ^ 31 by omega)]
      -- the night tried
      have run : ∀ (h11 : ah_T) (J : Option Value → ah_T → Prop), h11 = ah_si g1 101 l (nI k) → (∀ g3, Sh g3 → mdF h g3 → mQs A g3 → ah_i g3 82 49 = -1 → (∀ j, 50 ≤ j → ah_i g3 82 j = ah_i g 82 j) → J (some (.int (nI (wS A l k)))) g3) → Mt mX12_tries [.ref 82, .int 0] h11 (ab_qv fun h14 => Sh h14 ∧ (Mt mX12_litOf [.ref 82, .int (nI l)] h14 J)) := by
        rintro h11 J rfl hJ
        have f2 := lkF_s (a := 101) (j := l) (x := nI k) (by omega) f1
        have b2 : mBa A (ndK A l k) _ := mBa_l f2 (mND_K hl hk6 d1) (Nat.le_refl _) mq
        refine m_tries f2.1 b2 (by show A 246 ≤ A 246 + 1; omega) (fun g3 M f3 b3 hM t3 k7 k8 o e49 ej => ⟨rfl, f3.1, ?_⟩)
        have eM : M = 120 := by
          rcases o with o | o
          · exact o
          · exact absurd rfl o.1
        subst eM
        have ly := lyF_t (lyF_l f2) f3
        refine m_litOf f3.1 t3 rfl (by show l < A 246; exact hl) (by show A 246 ≤ 10; exact w10) (hJ g3 f3.1 (mdF_t f (mdF_ly ly)) (mQ_b ly b3 mq) e49 (fun j hj => ?_))
        rw [ej j hj, ah_i_sn (by omega), f1.2.2.2 j (by omega) (by omega) (by omega)]
      have wst := wdF_s A l k
      have w121 := (wdF_le A l k).1
      have ws := wS_le A l k
      have lt : nO (wdF A l k).1 < nI (wS A l k) ↔ (wdF A l k).1 < wS A l k + 1 := by
        rcases Nat.eq_zero_or_pos (wdF A l k).1 with y | y
        · rw [y, Int32.lt_iff_toInt_lt, nI_toInt (by omega)]
          have t0 : (nO 0).toInt = -1 := by decide
          rw [t0]
          omega
        · rw [show (wdF A l k).1 = ((wdF A l k).1 - 1) + 1 by omega, nO_s, nI_ltI (by omega) (by omega)]
          omega
      -- the next kind
      have nx : ∀ g3, Sh g3 → mdF h g3 → mQs A g3 → ah_i g3 82 49 = -1 → (∀ j, 50 ≤ j → j ≠ 65 → ah_i g3 82 j = ah_i g 82 j) → (own < k + 1 → ah_i g3 82 65 = nI (wS A l own)) → (((ah_i g3 82 64) < nI (wS A l k) → (∀ h21, h21 = ah_si g3 82 64 (nI (wS A l k)) → (∀ h24, h24 = ah_si h21 82 63 (nI k) → Wp mX12_wouldBe Q 0 0 7 [some (.ref 82), some (.int (nI l)), some (.int (nI (k + 1))), none, none] [] h24))) ∧ (¬ (ah_i g3 82 64) < nI (wS A l k) → Wp mX12_wouldBe Q 0 0 7 [some (.ref 82), some (.int (nI l)), some (.int (nI (k + 1))), none, none] [] g3)) := by
        intro g3 s3 f3 q3 e49 ej e65
        rw [ej 64 (by omega) (by omega), a64, lt]
        refine ⟨fun z => ?_, fun z => ?_⟩
        · rintro h21 rfl h24 rfl
          rw [if_pos z] at wst
          refine ih (k + 1) _ (by omega) (mdF_s (by omega) (mdF_s (by omega) f3)) (mQs_2 (by omega) (mQs_2 (by omega) q3)) (fun _ => by rw [ah_i_sn (by omega), ah_i_sn (by omega)]; exact e49) ?_ (fun _ => ?_) (fun y => by rw [ah_i_sn (by omega), ah_i_sn (by omega)]; exact e65 y)
          · rw [ah_i_sn (by omega), ah_i_ss, wst]
            exact (nO_s _).symm
          · rw [ah_i_ss, wst]
        · rw [if_neg z] at wst
          have kpos : 0 < k := by
            rcases Nat.eq_zero_or_pos k with y | y
            · subst y
              have : (wdF A l 0).1 = 0 := rfl
              omega
            · exact y
          exact ih (k + 1) g3 (by omega) f3 q3 (fun _ => e49) (by rw [ej 64 (by omega) (by omega), a64, wst]) (fun _ => by rw [ej 63 (by omega) (by omega), wst]; exact a63 kpos) e65
      refine ⟨vl, fun y => ⟨vl, ?_⟩, fun y => ⟨vl, ?_⟩⟩
      · intro h11 q11
        refine run h11 _ q11 (fun g3 s3 f3 q3 e49 ej => ⟨_, rfl, s3, nx g3 s3 f3 q3 e49 (fun j h1 _ => ej j h1) (fun z => ?_)⟩)
        rw [ej 65 (by omega)]
        exact a65 (by omega)
      · intro h28 q28
        refine run h28 _ q28 (fun g3 s3 f3 q3 e49 ej => ⟨_, rfl, s3, ?_⟩)
        rintro h37 rfl
        refine nx _ (sh_si s3) (mdF_s (by omega) f3) (mQs_2 (by omega) q3) (by rw [ah_i_sn (by omega)]; exact e49) (fun j h1 h2 => by rw [ah_i_sn (by omega)]; exact ej j h1) (fun z => ?_)
        rw [ah_i_ss, y]
  refine T_X12_wouldBe hs _ ?_
  rintro h1 rfl
  exact l7 6 0 _ (by omega) (mdF_s (by omega) (mdF_r hs)) (mQs_2 (by omega) q) (fun y => absurd y (by omega)) (by rw [ah_i_ss]; rfl) (fun y => absurd y (by omega)) (fun y => absurd y (by omega))
theorem li_e (f : grF Pli h g) (e62 : ∀ j, j ≠ 11 → j ≠ 12 → ah_i g 62 j = ah_i h 62 j) : ∀ a j, wxc a j → ¬ Cli a j → ah_i g a j = ah_i h a j := by
  intro a j w c
  by_cases z : a = 62
  · subst z
    refine e62 j (fun y => c (.inl ⟨rfl, .inl y⟩)) (fun y => c (.inl ⟨rfl, .inr y⟩))
  · have hp : ¬ Pli a := by
      rintro (y | y | y)
      · exact z y
      · exact c (.inr (.inl y))
      · exact c (.inr (.inr y))
    have hr : 53 < a := by
      unfold wxc Cwk Cst Ccg Cli Cwo Chg Cpc at w
      omega
    exact (f.2.2.1 a (by omega) hp).1 j
theorem Pli_r : ∀ a, Pli a → 60 < a ∧ a < 82 := fun a y => by unfold Pli at y; omega
theorem loF_gr (hP : ∀ a, P a → 60 < a ∧ a < 82) (f : grF P h g) : loF h g := ⟨f.1, f.2.1, fun a n => f.2.2.1 a (by omega) (fun y => by have := hP a y; omega), fun j _ _ => (f.2.2.1 0 (by omega) (fun y => by have := hP 0 y; omega)).1 j⟩
theorem inv_ty (X : XP KX RX WX) (hW : hWp KX RX) (hS : SXp SX) (p : preQ KX RX WX SX n A h) (t : tyF A h g) : Inv TXm (CCg KX RX WX) (CMg SX) n g := by
  obtain ⟨v, c1, c2, _⟩ := p.2.2.1
  refine inv_md X hW hS p t.1 t.2.1.2.1 (fun y => ?_) (.inr (.inr t.2.2))
  rw [t.2.2, t.1.2.2.2 1 (by omega), c1] at y
  exact absurd y.symm (nI_m1 (by omega))
theorem rel_would (X : XP KX RX WX) (hW : hWp KX RX) (hS : SXp SX) (K : KRp KX RX) (W : Wp1 WX liX Cli) (a b : Int32) : lw_RC (Inv TXm (CCg KX RX WX) (CMg SX) (n + 1)) (Inv TXm (CCg KX RX WX) (CMg SX) n) mX11_would mX12_would [.int a, .int b] := by
  intro h hI
  obtain ⟨hs, A, p⟩ := pre_of hI
  have p' := p
  obtain ⟨⟨B0, B1, d, D, wf, tn, _⟩, cc, cm⟩ := p'
  have tw := cTw_of wf tn
  have h10 := wf.2.1.1
  have m246 := (mQs_p p).2.2.1.2.2.1
  have t246 : Int32.toNatClampNeg 246 = 246 := rfl
  have no : ((¬ a = -1 ∧ f_X12_isLamp h a = 0) ∨ f_X11_isIn b 2 = 0) → Mt mX12_would [.ref 82, .int a, .int b] h (ab_qi fun w h2 => -1 = w ∧ Inv TXm (CCg KX RX WX) (CMg SX) n h2) := by
    intro o
    refine T_X12_would hs _ _ ?_
    simp only [q_two]
    have done : (ab_qi fun w h2 => -1 = w ∧ Inv TXm (CCg KX RX WX) (CMg SX) n h2) (some (.int (-1))) h := ⟨_, rfl, rfl, inv_less hs p⟩
    by_cases z3 : f_X11_isIn b 2 = 0
    · (first | refine ⟨fun _ => ?_, fun n_ => absurd (z3) n_⟩ | refine ⟨fun n_ => absurd (z3) n_, fun _ => ?_⟩ | refine ⟨fun y_ => absurd y_ (z3), fun _ => ?_⟩ | refine ⟨fun _ => ?_, fun y_ => absurd y_ (z3)⟩)
      exact done
    · (first | refine ⟨fun _ => ?_, fun n_ => absurd (z3) n_⟩ | refine ⟨fun n_ => absurd (z3) n_, fun _ => ?_⟩ | refine ⟨fun y_ => absurd y_ (z3), fun _ => ?_⟩ | refine ⟨fun _ => ?_, fun y_ => absurd y_ (z3)⟩)
      have z := o.resolve_right z3
      (first | refine ⟨fun _ => ?_, fun n_ => absurd (z.1) n_⟩ | refine ⟨fun n_ => absurd (z.1) n_, fun _ => ?_⟩ | refine ⟨fun y_ => absurd y_ (z.1), fun _ => ?_⟩ | refine ⟨fun _ => ?_, fun y_ => absurd y_ (z.1)⟩)
      (first | refine ⟨fun _ => ?_, fun n_ => absurd (z.2) n_⟩ | refine ⟨fun n_ => absurd (z.2) n_, fun _ => ?_⟩ | refine ⟨fun y_ => absurd y_ (z.2), fun _ => ?_⟩ | refine ⟨fun _ => ?_, fun y_ => absurd y_ (z.2)⟩)
      exact done
  refine T_X11_would hs a b ?_
  by_cases ha : a = -1
  · (first | refine ⟨fun _ => ?_, fun n_ => absurd (ha) n_⟩ | refine ⟨fun n_ => absurd (ha) n_, fun _ => ?_⟩ | refine ⟨fun y_ => absurd y_ (ha), fun _ => ?_⟩ | refine ⟨fun _ => ?_, fun y_ => absurd y_ (ha)⟩)
    by_cases c3 : f_X11_isIn b 2 = 0
    · (first | refine ⟨fun _ => ?_, fun n_ => absurd (c3) n_⟩ | refine ⟨fun n_ => absurd (c3) n_, fun _ => ?_⟩ | refine ⟨fun y_ => absurd y_ (c3), fun _ => ?_⟩ | refine ⟨fun _ => ?_, fun y_ => absurd y_ (c3)⟩)
      exact ⟨_, rfl, hs, no (.inr c3)⟩
    (first | refine ⟨fun _ => ?_, fun n_ => absurd (c3) n_⟩ | refine ⟨fun n_ => absurd (c3) n_, fun _ => ?_⟩ | refine ⟨fun y_ => absurd y_ (c3), fun _ => ?_⟩ | refine ⟨fun _ => ?_, fun y_ => absurd y_ (c3)⟩)
    refine lk1 hs X hS p (fun h6 g' s6 p6 lk6 pq => ?_)
    (first | refine ⟨fun _ => ?_, fun n_ => absurd (ha) n_⟩ | refine ⟨fun n_ => absurd (ha) n_, fun _ => ?_⟩ | refine ⟨fun y_ => absurd y_ (ha), fun _ => ?_⟩ | refine ⟨fun _ => ?_, fun y_ => absurd y_ (ha)⟩)
    -- all lamps, the class
    have lp : ∀ (q l : Nat) (g : ah_T), l + q = A 246 → grF Pli h6 g → tmN g' A g → cND A (nd0 A) 0 g → (∀ j, j ≠ 11 → j ≠ 12 → ah_i g 62 j = ah_i h6 62 j) → liX A g → (∀ i, i < l → bt (ah_i g 62 11) i = true) → Wp mX1_unrest (ab_qi fun v15 h13 => Sh h13 ∧ (ab_qi fun v h1 => Sh h1 ∧ Mt mX12_would (.ref 82 :: [.int a, .int b]) h1 (ab_qi fun w h2 => v = w ∧ Inv TXm (CCg KX RX WX) (CMg SX) n h2)) (some (.int v15)) h13) 0 0 2 [some (.ref 62), some (.int (nI l))] [] g := by
      intro q
      induction q with
      | zero =>
        intro l g hl f t d e62 li fo
        have e9 : l = A 246 := by omega
        subst e9
        have lg := lkO_g K W Pli_r f t d (li_e f e62) (fun j _ => ⟨(f.2.2.1 63 (by omega) (by unfold Pli; omega)).1 j, (f.2.2.1 65 (by omega) (by unfold Pli; omega)).1 j⟩) li lk6
        have pg := pq g (loF_gr Pli_r f) lg
        refine T_X1_unrest_2 f.1 _ ?_
        rw [lg.1.1.1.2.1]
        (first | refine ⟨fun _ => ?_, fun n_ => absurd (show nI (A 246) ≤ nI (A 246) from nI_le (Nat.le_refl _) (by omega)) n_⟩ | refine ⟨fun n_ => absurd (show nI (A 246) ≤ nI (A 246) from nI_le (Nat.le_refl _) (by omega)) n_, fun _ => ?_⟩ | refine ⟨fun y_ => absurd y_ (show nI (A 246) ≤ nI (A 246) from nI_le (Nat.le_refl _) (by omega)), fun _ => ?_⟩ | refine ⟨fun _ => ?_, fun y_ => absurd y_ (show nI (A 246) ≤ nI (A 246) from nI_le (Nat.le_refl _) (by omega))⟩)
        refine ⟨_, rfl, f.1, _, rfl, f.1, T_X12_would f.1 _ _ ?_⟩
        simp only [q_two]
        (first | refine ⟨fun _ => ?_, fun n_ => absurd (c3) n_⟩ | refine ⟨fun n_ => absurd (c3) n_, fun _ => ?_⟩ | refine ⟨fun y_ => absurd y_ (c3), fun _ => ?_⟩ | refine ⟨fun _ => ?_, fun y_ => absurd y_ (c3)⟩)
        (first | refine ⟨fun _ => ?_, fun n_ => absurd (ha) n_⟩ | refine ⟨fun n_ => absurd (ha) n_, fun _ => ?_⟩ | refine ⟨fun y_ => absurd y_ (ha), fun _ => ?_⟩ | refine ⟨fun _ => ?_, fun y_ => absurd y_ (ha)⟩)
        -- the model
        have ml : ∀ (q2 x : Nat) (u : ah_T) (v : Int32), x + q2 = A 246 → mdF g u → mQs A u → (0 < x → ah_i u 82 49 = -1) → (x = 0 → mNg A u ∧ ah_i u 82 49 = ah_i g 82 49) → (∀ i, i < 32 → (bt v i = true ↔ i < x ∧ rstB A i)) → Wp mX12_would (ab_qi fun w h2 => ah_i g 62 12 = w ∧ Inv TXm (CCg KX RX WX) (CMg SX) n h2) 0 0 21 [some (.ref 82), none, none, some (.int v), some (.int (nI x))] [] u := by
          intro q2
          induction q2 with
          | zero =>
            intro x u v hx fu qu u49 u0 hv
            have e9 : x = A 246 := by omega
            refine T_X12_would_21 fu.1 _ _ ?_
            rw [t246, qu.2.2.1.2.2.1]
            (first | refine ⟨fun _ => ?_, fun n_ => absurd (show nI (A 246) ≤ nI x from nI_le (by omega) (by omega)) n_⟩ | refine ⟨fun n_ => absurd (show nI (A 246) ≤ nI x from nI_le (by omega) (by omega)) n_, fun _ => ?_⟩ | refine ⟨fun y_ => absurd y_ (show nI (A 246) ≤ nI x from nI_le (by omega) (by omega)), fun _ => ?_⟩ | refine ⟨fun _ => ?_, fun y_ => absurd y_ (show nI (A 246) ≤ nI x from nI_le (by omega) (by omega))⟩)
            refine ⟨_, rfl, ?_, ?_⟩
            · apply b_ext
              intro i hi
              have cl : bt (ah_i g 62 12) i = true ↔ i < A 246 ∧ rstB A i := by
                constructor
                · intro y
                  have := (li.2 i hi y).1
                  exact ⟨this, ((li.1 i this (fo i (by omega))).2.2).mp y⟩
                · rintro ⟨y1, y2⟩
                  exact ((li.1 i y1 (fo i (by omega))).2.2).mpr y2
              have mo := hv i hi
              rw [e9] at mo
              cases y1 : bt (ah_i g 62 12) i <;> cases y2 : bt v i
              · rfl
              · rw [cl.mpr (mo.mp y2)] at y1; exact absurd y1 (by decide)
              · rw [mo.mpr (cl.mp y1)] at y2; exact absurd y2 (by decide)
              · rfl
            · rcases Nat.eq_zero_or_pos x with y | y
              · obtain ⟨y1, y2⟩ := u0 y
                exact inv_md X hW hS pg fu qu.2.1 y1 (.inl y2)
              · exact inv_ty X hW hS pg ⟨fu, qu, u49 y⟩
          | succ q2 ih2 =>
            intro x u v hx fu qu u49 u0 hv
            have hx2 : x < A 246 := by omega
            have w121 := (wdF_le A x 6).1
            have wp := wdF_pos A x 6 (by omega)
            have ws := wS_le A x (A (61 + 3 * x))
            refine T_X12_would_21 fu.1 _ _ ?_
            rw [t246, qu.2.2.1.2.2.1]
            (first | refine ⟨fun _ => ?_, fun n_ => absurd (show ¬ nI (A 246) ≤ nI x from nI_ge (by omega) (by omega)) n_⟩ | refine ⟨fun n_ => absurd (show ¬ nI (A 246) ≤ nI x from nI_ge (by omega) (by omega)) n_, fun _ => ?_⟩ | refine ⟨fun y_ => absurd y_ (show ¬ nI (A 246) ≤ nI x from nI_ge (by omega) (by omega)), fun _ => ?_⟩ | refine ⟨fun _ => ?_, fun y_ => absurd y_ (show ¬ nI (A 246) ≤ nI x from nI_ge (by omega) (by omega))⟩)
            refine m_wouldBe fu.1 qu rfl hx2 (fun u1 t1 a64 a63 a65 => ⟨rfl, t1.1.1, ?_⟩)
            rw [a64, a65, nI_1, show (wdF A x 6).1 = ((wdF A x 6).1 - 1) + 1 by omega, nO_s]
            have e0 : ∀ y : Int32, y ||| 0 = y := fun y => b_ext (fun i _ => by rw [b_or, b_0, Bool.or_false])
            rw [e0]
            refine ⟨fun z => ih2 (x + 1) u1 v (by omega) (mdF_t fu t1.1) t1.2.1 (fun _ => t1.2.2) (fun y => absurd y (by omega)) (fun i hi => (hv i hi).trans ?_), fun z => ih2 (x + 1) u1 _ (by omega) (mdF_t fu t1.1) t1.2.1 (fun _ => t1.2.2) (fun y => absurd y (by omega)) (fun i hi => ?_)⟩
            · refine ⟨fun y => ⟨by omega, y.2⟩, fun y => ⟨?_, y.2⟩⟩
              by_cases w : i = x
              · subst w
                have r := y.2
                unfold rstB at r
                have := Int32.le_iff_toInt_le.mp z
                rw [nI_toInt (by omega), nI_toInt (by omega)] at this
                omega
              · have := y.1; omega
            · rw [b_or, b_1sh (by omega) hi, Bool.or_eq_true, decide_eq_true_eq, hv i hi]
              have rs : rstB A x := by
                unfold rstB
                rcases Nat.lt_or_ge (wS A x (A (61 + 3 * x)) + 1) (wdF A x 6).1 with y | y
                · exact y
                · exact absurd (nI_le (show (wdF A x 6).1 - 1 ≤ wS A x (A (61 + 3 * x)) by omega) (by omega)) z
              constructor
              · rintro (y | y)
                · exact ⟨by omega, y.2⟩
                · subst y; exact ⟨by omega, rs⟩
              · intro y
                by_cases w : i = x
                · exact .inr w
                · exact .inl ⟨by omega, y.2⟩
        exact ml (A 246) 0 g 0 (by omega) (mdF_r f.1) (mQs_p pg) (fun y => absurd y (by omega)) (fun _ => ⟨pg.2.2.2.2.2.2.1, rfl⟩) (fun i hi => by rw [b_0]; exact ⟨fun y => absurd y (by decide), fun y => absurd y.1 (by omega)⟩)
      | succ q ih =>
        intro l g hl f t d e62 li fo
        have hl2 : l < A 246 := by omega
        have tg : cTw A g := cTw_fr (fun a ha => (f.2.2.1 a (by omega) (fun y => by unfold Pli at y; omega)).1) lk6.1.1
        refine T_X1_unrest_2 f.1 _ ?_
        rw [tg.1.2.1]
        (first | refine ⟨fun _ => ?_, fun n_ => absurd (show ¬ nI (A 246) ≤ nI l from nI_ge (by omega) (by omega)) n_⟩ | refine ⟨fun n_ => absurd (show ¬ nI (A 246) ≤ nI l from nI_ge (by omega) (by omega)) n_, fun _ => ?_⟩ | refine ⟨fun y_ => absurd y_ (show ¬ nI (A 246) ≤ nI l from nI_ge (by omega) (by omega)), fun _ => ?_⟩ | refine ⟨fun _ => ?_, fun y_ => absurd y_ (show ¬ nI (A 246) ≤ nI l from nI_ge (by omega) (by omega))⟩)
        rw [nI_1]
        refine c_findLiking f.1 tg t d li rfl hl2 (fun g2 f2 t2 d2 k62 li2 b2 mo => ⟨rfl, f2.1, ?_⟩)
        refine ih (l + 1) g2 (by omega) (grF_t f f2) t2 d2 (fun j n1 n2 => by rw [k62 j n1 n2, e62 j n1 n2]) li2 (fun i hi => ?_)
        by_cases w : i = l
        · subst w; exact b2
        · exact mo i (by omega) (fo i (by omega))
    exact T_X1_unrest s6 (lp (A 246) 0 h6 (by omega) (grF_r s6) lk6.1.2.1 lk6.1.2.2.1 (fun _ _ _ => rfl) (W.1 _ _ lk6.2.2.2.2.1) (fun i hi => absurd hi (by omega)))
  · (first | refine ⟨fun _ => ?_, fun n_ => absurd (ha) n_⟩ | refine ⟨fun n_ => absurd (ha) n_, fun _ => ?_⟩ | refine ⟨fun y_ => absurd y_ (ha), fun _ => ?_⟩ | refine ⟨fun _ => ?_, fun y_ => absurd y_ (ha)⟩)
    refine c_has3 hs (by omega) tw.1.2.1 (by omega) (fun l hl el => ⟨_, rfl, hs, ?_⟩) (fun c0 => ⟨_, rfl, hs, ?_⟩)
    rotate_left
    · (first | refine ⟨fun _ => ?_, fun n_ => absurd (show (0 : Int32) = 0 from rfl) n_⟩ | refine ⟨fun n_ => absurd (show (0 : Int32) = 0 from rfl) n_, fun _ => ?_⟩ | refine ⟨fun y_ => absurd y_ (show (0 : Int32) = 0 from rfl), fun _ => ?_⟩ | refine ⟨fun _ => ?_, fun y_ => absurd y_ (show (0 : Int32) = 0 from rfl)⟩)
      exact ⟨_, rfl, hs, no (.inl ⟨ha, isLamp_f m246 h10 c0⟩)⟩
    subst el
    (first | refine ⟨fun _ => ?_, fun n_ => absurd (show ¬ (1 : Int32) = 0 by decide) n_⟩ | refine ⟨fun n_ => absurd (show ¬ (1 : Int32) = 0 by decide) n_, fun _ => ?_⟩ | refine ⟨fun y_ => absurd y_ (show ¬ (1 : Int32) = 0 by decide), fun _ => ?_⟩ | refine ⟨fun _ => ?_, fun y_ => absurd y_ (show ¬ (1 : Int32) = 0 by decide)⟩)
    by_cases c3 : f_X11_isIn b 2 = 0
    · (first | refine ⟨fun _ => ?_, fun n_ => absurd (c3) n_⟩ | refine ⟨fun n_ => absurd (c3) n_, fun _ => ?_⟩ | refine ⟨fun y_ => absurd y_ (c3), fun _ => ?_⟩ | refine ⟨fun _ => ?_, fun y_ => absurd y_ (c3)⟩)
      exact ⟨_, rfl, hs, no (.inr c3)⟩
    (first | refine ⟨fun _ => ?_, fun n_ => absurd (c3) n_⟩ | refine ⟨fun n_ => absurd (c3) n_, fun _ => ?_⟩ | refine ⟨fun y_ => absurd y_ (c3), fun _ => ?_⟩ | refine ⟨fun _ => ?_, fun y_ => absurd y_ (c3)⟩)
    refine lk1 hs X hS p (fun h6 g' s6 p6 lk6 pq => ?_)
    (first | refine ⟨fun _ => ?_, fun n_ => absurd (ha) n_⟩ | refine ⟨fun n_ => absurd (ha) n_, fun _ => ?_⟩ | refine ⟨fun y_ => absurd y_ (ha), fun _ => ?_⟩ | refine ⟨fun _ => ?_, fun y_ => absurd y_ (ha)⟩)
    refine c_findLiking s6 lk6.1.1 lk6.1.2.1 lk6.1.2.2.1 (W.1 _ _ lk6.2.2.2.2.1) rfl hl (fun g f t d e62 li bl _ => ⟨rfl, f.1, ?_⟩)
    have lg := lkO_g K W Pli_r f t d (li_e f e62) (fun j _ => ⟨(f.2.2.1 63 (by omega) (by unfold Pli; omega)).1 j, (f.2.2.1 65 (by omega) (by unfold Pli; omega)).1 j⟩) li lk6
    have pg := pq g (loF_gr Pli_r f) lg
    obtain ⟨r1, r2, r3⟩ := li.1 l hl bl
    have vl : vp_in (nI l) 10 := (vp_nI (by omega)).mpr (by omega)
    rw [nI_clamp (show l < 2 ^ 31 by omega), r1, r2, sh_n f.1 67 10 (by decide) (by decide) rfl, sh_n f.1 68 10 (by decide) (by decide) rfl]
    have mod : ∀ (J : Option Value → ah_T → Prop), (∀ u, tyF A g u → ((¬ b = 0 → J (some (.int (nO (wdF A l 6).1))) u) ∧ (b = 0 → J (some (.int (nI (wdF A l 6).2))) u))) → Mt mX12_would [.ref 82, .int (nI l), .int b] g J := by
      intro J hJ
      refine T_X12_would f.1 _ _ ?_
      simp only [q_two]
      (first | refine ⟨fun _ => ?_, fun n_ => absurd (c3) n_⟩ | refine ⟨fun n_ => absurd (c3) n_, fun _ => ?_⟩ | refine ⟨fun y_ => absurd y_ (c3), fun _ => ?_⟩ | refine ⟨fun _ => ?_, fun y_ => absurd y_ (c3)⟩)
      (first | refine ⟨fun _ => ?_, fun n_ => absurd (ha) n_⟩ | refine ⟨fun n_ => absurd (ha) n_, fun _ => ?_⟩ | refine ⟨fun y_ => absurd y_ (ha), fun _ => ?_⟩ | refine ⟨fun _ => ?_, fun y_ => absurd y_ (ha)⟩)
      (first | refine ⟨fun _ => ?_, fun n_ => absurd (isLamp_t (mQs_p pg).2.2.1.2.2.1 h10 hl) n_⟩ | refine ⟨fun n_ => absurd (isLamp_t (mQs_p pg).2.2.1.2.2.1 h10 hl) n_, fun _ => ?_⟩ | refine ⟨fun y_ => absurd y_ (isLamp_t (mQs_p pg).2.2.1.2.2.1 h10 hl), fun _ => ?_⟩ | refine ⟨fun _ => ?_, fun y_ => absurd y_ (isLamp_t (mQs_p pg).2.2.1.2.2.1 h10 hl)⟩)
      refine m_wouldBe f.1 (mQs_p pg) rfl hl (fun u t1 a64 a63 a65 => ⟨rfl, t1.1.1, ?_⟩)
      rw [a64, a63]
      exact hJ u t1
    refine ⟨fun z => ⟨vl, _, rfl, f.1, mod _ (fun u t1 => ⟨fun _ => ⟨_, rfl, rfl, inv_ty X hW hS pg t1⟩, fun y => absurd y z⟩)⟩, fun z => ⟨vl, _, rfl, f.1, mod _ (fun u t1 => ⟨fun y => absurd z y, fun _ => ⟨_, rfl, rfl, inv_ty X hW hS pg t1⟩⟩)⟩⟩
end WO
