/-! ===== round on both sides ===== -/
section RN
variable {WX SX : (Nat → Nat) → ah_T → Prop} {A : Nat → Nat} {h g u : ah_T} {a s m x y c n l k : Nat}
theorem rS_lt (wl : wfL A) (r : alR A (A 246) (coL A) c) (hk : k ≤ A 246) : (rSt A (A 246) (coL A) c k).1 < 2 ^ A 246 := (rS_in (co_wl wl) (rv_fin (co_wl wl) r) k hk).1
theorem m_round {Q : Option Value → ah_T → Prop} {x2 : Int32} (hs : Sh h) (r : rmO A h) (hc : c < 12) (hx : -1 ≤ x2) (hq : ∀ g v, rmF h g → wrR A c x2 v → Q (some (.int v)) g) : Wp mX12_round Q 0 0 36 [some (.ref 82), some (.int (nI c)), some (.int x2), some (.int (nI (2 ^ A 246 - 1))), none, none, none, none, none] [] h := by
  have wl := r.1
  have h10 := wl.1
  have p2 := p2_10 h10
  have n112 : ∀ {u : ah_T}, Sh u → ah_n u 112 = 10240 := fun hs => sh_n hs 112 10240 (by decide) (by decide) rfl
  have n100 : ∀ {u : ah_T}, Sh u → ah_n u 100 = 10 := fun hs => sh_n hs 100 10 (by decide) (by decide) rfl
  have n98 : ∀ {u : ah_T}, Sh u → ah_n u 98 = 144 := fun hs => sh_n hs 98 144 (by decide) (by decide) rfl
  -- behind the rows
  have tail : ∀ (u : ah_T), rmF h u → (∀ s' l, 0 < s' → s' < 2 ^ A 246 → l < A 246 → s'.testBit l = true → ah_i u 112 (10 * s' + l) = nI (rG A (A 246) (coL A) ((2 ^ A 246 - 1) ^^^ s') (coL A l))) → Wp mX12_round Q 0 0 36 [some (.ref 82), some (.int (nI c)), some (.int x2), some (.int (nI 0)), none, none, none, none, none] [] u := by
    intro u fu lf
    have ru := rmO_f fu r
    have su := fu.1
    have lfu : ∀ s l, s < 2 ^ A 246 → l < A 246 → s.testBit l = false → ah_i u 112 (10 * (s ||| 2 ^ l) + l) = nI (rG A (A 246) (coL A) ((2 ^ A 246 - 1) ^^^ (s ||| 2 ^ l)) (coL A l)) := by
      intro s l h1 h2 h3
      have := up_or (show s < 1024 by omega) (show l < 10 by omega) h3
      exact lf _ l (by omega) (Nat.or_lt_two_pow h1 (Nat.pow_lt_pow_right (by decide) h2)) h2 (by rw [tb_o, decide_eq_true rfl, Bool.or_true])
    have hd : ∀ l, l < A 246 → dS A c (coL A l) < 12 ∨ dS A c (coL A l) = 1000000 := fun l hl => by
      rcases dS_v (ru.2.2.2 c (coL A l) hc (wl.2 l hl).1) with y | y
      · exact .inr y.2
      · exact .inl y.2
    refine T_X12_round_36 su _ _ _ ?_
    (first | refine ⟨fun _ => ?_, fun n_ => absurd (show nI 0 ≤ 0 from nI_le (b := 0) (Nat.le_refl _) (by omega)) n_⟩ | refine ⟨fun n_ => absurd (show nI 0 ≤ 0 from nI_le (b := 0) (Nat.le_refl _) (by omega)) n_, fun _ => ?_⟩ | refine ⟨fun y_ => absurd y_ (show nI 0 ≤ 0 from nI_le (b := 0) (Nat.le_refl _) (by omega)), fun _ => ?_⟩ | refine ⟨fun _ => ?_, fun y_ => absurd y_ (show nI 0 ≤ 0 from nI_le (b := 0) (Nat.le_refl _) (by omega))⟩)
    refine m_leftFrom su ru (Nat.two_pow_pos _) hc rfl rfl (fun l hl hb => lfu 0 l (Nat.two_pow_pos _) hl hb) ⟨_, rfl, su, ?_⟩
    rw [Nat.xor_zero]
    have top := rv_le A (A 246) (coL A) (2 ^ A 246 - 1) c
    by_cases ar : alR A (A 246) (coL A) c
    · have fin := rv_fin (m := 2 ^ A 246 - 1) (co_wl wl) ar
      (first | refine ⟨fun _ => ?_, fun n_ => absurd (show ¬ 1000000 ≤ nI (rG A (A 246) (coL A) (2 ^ A 246 - 1) c) from nI_ge (b := 1000000) fin (by omega)) n_⟩ | refine ⟨fun n_ => absurd (show ¬ 1000000 ≤ nI (rG A (A 246) (coL A) (2 ^ A 246 - 1) c) from nI_ge (b := 1000000) fin (by omega)) n_, fun _ => ?_⟩ | refine ⟨fun y_ => absurd y_ (show ¬ 1000000 ≤ nI (rG A (A 246) (coL A) (2 ^ A 246 - 1) c) from nI_ge (b := 1000000) fin (by omega)), fun _ => ?_⟩ | refine ⟨fun _ => ?_, fun y_ => absurd y_ (show ¬ 1000000 ≤ nI (rG A (A 246) (coL A) (2 ^ A 246 - 1) c) from nI_ge (b := 1000000) fin (by omega))⟩)
      refine ⟨fun z => ⟨fun y => ?_, fun y => ?_⟩, fun z => ⟨fun _ => hq u _ fu (.inr ⟨ar, .inl ⟨z, rfl⟩⟩), fun y => absurd (nI_lt (b := 1000000) fin (by omega)) y⟩⟩
      · have x0 : ¬ x2 < 0 := by
          intro y
          have a := Int32.lt_iff_toInt_lt.mp y
          have b := Int32.le_iff_toInt_le.mp hx
          have e0 : (0 : Int32).toInt = 0 := rfl
          have e1 : (-1 : Int32).toInt = -1 := by decide
          rw [e0] at a
          rw [e1] at b
          exact z (Int32.toInt_inj.mp (by rw [e1]; omega))
        obtain ⟨i, i31, ei⟩ := nI_of3 x0
        rw [ru.2.1, ei, nI_ltI i31 (by omega)] at y
        obtain ⟨S, eS⟩ : ∃ S, S = rSt A (A 246) (coL A) c := ⟨_, rfl⟩
        obtain ⟨R, eR⟩ : ∃ R, R = rRow A (A 246) (coL A) c := ⟨_, rfl⟩
        -- the row
        have row : ∀ (q k : Nat) (x6 : Int32), k + q = i + 1 → (0 < k → x6 = nI (R (k - 1))) → Wp mX12_round Q 0 0 149 [some (.ref 82), none, some (.int x2), none, some (.int (nI ((2 ^ A 246 - 1) ^^^ (S k).1))), some (.int (nI (S k).2)), some (.int x6), some (.int (nI k)), none] [] u := by
          intro q
          induction q with
          | zero =>
            intro k x6 hk e6
            have e9 : k = i + 1 := by omega
            subst e9
            refine T_X12_round_149 su _ _ _ _ _ ?_
            rw [ei]
            (first | refine ⟨fun _ => ?_, fun n_ => absurd (show nI i < nI (i + 1) from nI_lt (by omega) (by omega)) n_⟩ | refine ⟨fun n_ => absurd (show nI i < nI (i + 1) from nI_lt (by omega) (by omega)) n_, fun _ => ?_⟩ | refine ⟨fun y_ => absurd y_ (show nI i < nI (i + 1) from nI_lt (by omega) (by omega)), fun _ => ?_⟩ | refine ⟨fun _ => ?_, fun y_ => absurd y_ (show nI i < nI (i + 1) from nI_lt (by omega) (by omega))⟩)
            have := e6 (by omega)
            rw [Nat.add_sub_cancel] at this
            rw [this, eR]
            exact hq u _ fu (.inr ⟨ar, .inr ⟨i, i31, ei, .inl ⟨y, rfl⟩⟩⟩)
          | succ q ih =>
            intro k x6 hk e6
            have hkn : k < A 246 := by omega
            obtain ⟨i1, i2, i3, i4⟩ := rS_in (co_wl wl) (rv_fin (m := 2 ^ A 246 - 1) (co_wl wl) ar) k (by omega)
            obtain ⟨l1, ⟨l2, l3, l4⟩, l5⟩ := i4 hkn
            rw [← eS] at i1 i3 l3 l4 l5
            rw [← eR] at l1 l2 l3 l4 l5
            have sk : (2 ^ A 246 - 1) ^^^ (S k).1 < 2 ^ A 246 := Nat.xor_lt_two_pow (by omega) i1
            obtain ⟨s, es⟩ : ∃ s, s = (2 ^ A 246 - 1) ^^^ (S k).1 := ⟨_, rfl⟩
            have esm : (2 ^ A 246 - 1) ^^^ s = (S k).1 := by rw [es]; exact cpl2
            rw [← es] at sk ⊢
            have a12 : (S k).2 < 12 := by
              have := (at_fin wl ar hc (p := k) (l := R k) (by omega) l2).1
              rw [← eS] at this
              exact this
            have rtop := rv_le A (A 246) (coL A) (S k).1 (S k).2
            refine T_X12_round_149 su _ _ _ _ _ ?_
            rw [ei]
            (first | refine ⟨fun _ => ?_, fun n_ => absurd (show ¬ nI i < nI k from nI_nlt (by omega) (by omega)) n_⟩ | refine ⟨fun n_ => absurd (show ¬ nI i < nI k from nI_nlt (by omega) (by omega)) n_, fun _ => ?_⟩ | refine ⟨fun y_ => absurd y_ (show ¬ nI i < nI k from nI_nlt (by omega) (by omega)), fun _ => ?_⟩ | refine ⟨fun _ => ?_, fun y_ => absurd y_ (show ¬ nI i < nI k from nI_nlt (by omega) (by omega))⟩)
            refine m_leftFrom su ru sk a12 rfl rfl (fun l hl hb => lfu s l sk hl hb) ⟨_, rfl, su, ?_⟩
            rw [esm]
            have body : ∀ l, l < A 246 → ((S k).1.testBit l = true → dS A (S k).2 (coL A l) + rG A (A 246) (coL A) ((S k).1 ^^^ 2 ^ l) (coL A l) = rG A (A 246) (coL A) (S k).1 (S k).2 → l = R k) → (¬ l = R k → Wp mX12_round Q 0 0 168 [some (.ref 82), none, some (.int (nI i)), none, some (.int (nI s)), some (.int (nI (S k).2)), some (.int (nI (l + 1))), some (.int (nI k)), some (.int (nI (rG A (A 246) (coL A) (S k).1 (S k).2)))] [] u) → Wp mX12_round Q 0 0 168 [some (.ref 82), none, some (.int (nI i)), none, some (.int (nI s)), some (.int (nI (S k).2)), some (.int (nI l)), some (.int (nI k)), some (.int (nI (rG A (A 246) (coL A) (S k).1 (S k).2)))] [] u := by
              intro l hl yes nx
              have tl := tb_cpl (s := s) hl
              rw [esm] at tl
              have c12 : coL A l < 12 := (wl.2 l hl).1
              refine T_X12_round_168 su _ _ _ _ _ _ ?_
              rw [isIn_bt _ (show l < 32 by omega), nb (by omega), nI_1]
              refine ⟨fun z => nx (fun w => ?_), fun z => ?_⟩
              · have zt : s.testBit l = true := by cases w : s.testBit l; exact absurd w z; rfl
                rw [zt, w, l3] at tl
                exact absurd tl (by decide)
              · rw [z] at tl
                have e := lfu s l sk hl z
                have o := no_lt (show s < 1024 by omega) (p2_lt (show l < 10 by omega))
                have r1 := rv_le A (A 246) (coL A) ((2 ^ A 246 - 1) ^^^ (s ||| 2 ^ l)) (coL A l)
                have t := dS_top A (S k).2 (coL A l)
                have v := f_via ru a12 hl r1 (show s < 1024 by omega) e
                have a1 : 12 * nI (S k).2 + nI (coL A l) = nI (12 * (S k).2 + coL A l) := by rw [n_12, nI_mul, nI_add]
                have a2 : 10 * nI (s ||| 2 ^ l) + nI l = nI (10 * (s ||| 2 ^ l) + l) := by rw [n_10, nI_mul, nI_add]
                rw [v, nI_1sh (by omega), nI_or, a2, nI_clamp (show l < 2 ^ 31 by omega), ru.2.2.1 l hl, a1, n100 su, n98 su, n112 su, cpl hl z, esm, nI_1, nI_eq (by omega) (by omega)]
                rw [cpl hl z, esm] at r1
                refine ⟨(vp_nI (by omega)).mpr (by omega), (vp_nI (by omega)).mpr (by omega), fun _ => (vp_nI (by omega)).mpr (by omega), (vp_nI (by omega)).mpr (by omega), fun w => ⟨(vp_nI (by omega)).mpr (by omega), ?_⟩, fun w => nx (fun w2 => w ?_)⟩
                · have el := yes tl (by omega)
                  have es1 : S (k + 1) = ((S k).1 ^^^ 2 ^ l, coL A l) := by rw [eS, rS_s, ← eS, ← eR, ← el]
                  have g := ih (k + 1) (nI l) (by omega) (fun _ => by rw [Nat.add_sub_cancel, el])
                  rw [es1, ei] at g
                  have : (2 ^ A 246 - 1) ^^^ ((S k).1 ^^^ 2 ^ l) = s ||| 2 ^ l := by rw [← esm, ← cpl hl z]; exact cpl2
                  rw [this] at g
                  exact g
                · rw [w2, l4]; omega
            have l168 : ∀ (q2 l : Nat), l + q2 = R k → Wp mX12_round Q 0 0 168 [some (.ref 82), none, some (.int (nI i)), none, some (.int (nI s)), some (.int (nI (S k).2)), some (.int (nI l)), some (.int (nI k)), some (.int (nI (rG A (A 246) (coL A) (S k).1 (S k).2)))] [] u := by
              intro q2
              induction q2 with
              | zero =>
                intro l hl2
                have e9 : l = R k := by omega
                subst e9
                exact body (R k) l2 (fun _ _ => rfl) (fun y => absurd rfl y)
              | succ q2 ih2 =>
                intro l hl2
                exact body l (by omega) (fun y1 y2 => absurd ⟨by omega, y1, y2⟩ (l5 l (by omega))) (fun _ => ih2 (l + 1) (by omega))
            exact l168 (R k) 0 (by omega)
        have := row (i + 1) 0 (-1) (by omega) (fun y => absurd y (by omega))
        rw [eS] at this
        have e0 : rSt A (A 246) (coL A) c 0 = (2 ^ A 246 - 1, c) := rfl
        rw [e0, Nat.xor_self] at this
        exact this
      · have x0 : ¬ x2 < 0 := by
          intro y
          have a := Int32.lt_iff_toInt_lt.mp y
          have b := Int32.le_iff_toInt_le.mp hx
          have e0 : (0 : Int32).toInt = 0 := rfl
          have e1 : (-1 : Int32).toInt = -1 := by decide
          rw [e0] at a
          rw [e1] at b
          exact z (Int32.toInt_inj.mp (by rw [e1]; omega))
        obtain ⟨i, i31, ei⟩ := nI_of3 x0
        rw [ru.2.1, ei, nI_ltI i31 (by omega)] at y
        exact hq u _ fu (.inr ⟨ar, .inr ⟨i, i31, ei, .inr ⟨by omega, rfl⟩⟩⟩)
    · have inf := rv_inf h10 (coL A) (fun l hl => (wl.2 l hl).1) ar hd
      rw [inf]
      (first | refine ⟨fun _ => ?_, fun n_ => absurd (show 1000000 ≤ nI 1000000 from nI_le (a := 1000000) (by omega) (by omega)) n_⟩ | refine ⟨fun n_ => absurd (show 1000000 ≤ nI 1000000 from nI_le (a := 1000000) (by omega) (by omega)) n_, fun _ => ?_⟩ | refine ⟨fun y_ => absurd y_ (show 1000000 ≤ nI 1000000 from nI_le (a := 1000000) (by omega) (by omega)), fun _ => ?_⟩ | refine ⟨fun _ => ?_, fun y_ => absurd y_ (show 1000000 ≤ nI 1000000 from nI_le (a := 1000000) (by omega) (by omega))⟩)
      (first | refine ⟨fun _ => ?_, fun n_ => absurd (show ¬ nI 1000000 < 1000000 from nI_nlt (b := 1000000) (by omega) (by omega)) n_⟩ | refine ⟨fun n_ => absurd (show ¬ nI 1000000 < 1000000 from nI_nlt (b := 1000000) (by omega) (by omega)) n_, fun _ => ?_⟩ | refine ⟨fun y_ => absurd y_ (show ¬ nI 1000000 < 1000000 from nI_nlt (b := 1000000) (by omega) (by omega)), fun _ => ?_⟩ | refine ⟨fun _ => ?_, fun y_ => absurd y_ (show ¬ nI 1000000 < 1000000 from nI_nlt (b := 1000000) (by omega) (by omega))⟩)
      exact hq u _ fu (.inl ⟨ar, rfl⟩)
  -- the rows
  have l36 : ∀ (q s : Nat) (u : ah_T), s = q → s < 2 ^ A 246 → rmF h u → (∀ s' l, s < s' → s' < 2 ^ A 246 → l < A 246 → s'.testBit l = true → ah_i u 112 (10 * s' + l) = nI (rG A (A 246) (coL A) ((2 ^ A 246 - 1) ^^^ s') (coL A l))) → Wp mX12_round Q 0 0 36 [some (.ref 82), some (.int (nI c)), some (.int x2), some (.int (nI s)), none, none, none, none, none] [] u := by
    intro q
    induction q with
    | zero =>
      intro s u es hsn fu lf
      subst es
      exact tail u fu lf
    | succ q ih =>
      intro s u es hsn fu lf
      have su := fu.1
      refine T_X12_round_36 su _ _ _ ?_
      (first | refine ⟨fun _ => ?_, fun n_ => absurd (show ¬ nI s ≤ 0 from nI_ge (a := 0) (by omega) (by omega)) n_⟩ | refine ⟨fun n_ => absurd (show ¬ nI s ≤ 0 from nI_ge (a := 0) (by omega) (by omega)) n_, fun _ => ?_⟩ | refine ⟨fun y_ => absurd y_ (show ¬ nI s ≤ 0 from nI_ge (a := 0) (by omega) (by omega)), fun _ => ?_⟩ | refine ⟨fun _ => ?_, fun y_ => absurd y_ (show ¬ nI s ≤ 0 from nI_ge (a := 0) (by omega) (by omega))⟩)
      have l43 : ∀ (q2 j : Nat) (w : ah_T), j + q2 = A 246 → rmF h w → (∀ s' l, s < s' → s' < 2 ^ A 246 → l < A 246 → s'.testBit l = true → ah_i w 112 (10 * s' + l) = nI (rG A (A 246) (coL A) ((2 ^ A 246 - 1) ^^^ s') (coL A l))) → (∀ l, l < j → s.testBit l = true → ah_i w 112 (10 * s + l) = nI (rG A (A 246) (coL A) ((2 ^ A 246 - 1) ^^^ s) (coL A l))) → Wp mX12_round Q 0 0 43 [some (.ref 82), some (.int (nI c)), some (.int x2), some (.int (nI s)), some (.int (nI j)), none, none, none, none] [] w := by
        intro q2
        induction q2 with
        | zero =>
          intro j w hj fw lw lc
          have e9 : j = A 246 := by omega
          subst e9
          refine T_X12_round_43 fw.1 _ _ _ _ ?_
          rw [(rmO_f fw r).2.1]
          (first | refine ⟨fun _ => ?_, fun n_ => absurd (show nI (A 246) ≤ nI (A 246) from nI_le (Nat.le_refl _) (by omega)) n_⟩ | refine ⟨fun n_ => absurd (show nI (A 246) ≤ nI (A 246) from nI_le (Nat.le_refl _) (by omega)) n_, fun _ => ?_⟩ | refine ⟨fun y_ => absurd y_ (show nI (A 246) ≤ nI (A 246) from nI_le (Nat.le_refl _) (by omega)), fun _ => ?_⟩ | refine ⟨fun _ => ?_, fun y_ => absurd y_ (show nI (A 246) ≤ nI (A 246) from nI_le (Nat.le_refl _) (by omega))⟩)
          rw [show nI s + (-1) = nI q by rw [es, show ((-1 : Int32)) = -nI 1 from rfl, ← Int32.sub_eq_add_neg, nI_sub (by omega)]; rfl]
          refine ih q w rfl (by omega) fw (fun s' l h1 h2 h3 h4 => ?_)
          by_cases y : s' = s
          · rw [y]; rw [y] at h4; exact lc l h3 h4
          · exact lw s' l (by omega) h2 h3 h4
        | succ q2 ih2 =>
          intro j w hj fw lw lc
          have hjn : j < A 246 := by omega
          have rw' := rmO_f fw r
          refine T_X12_round_43 fw.1 _ _ _ _ ?_
          rw [rw'.2.1, isIn_bt _ (show j < 32 by omega), nb (by omega), nI_1]
          (first | refine ⟨fun _ => ?_, fun n_ => absurd (show ¬ nI (A 246) ≤ nI j from nI_ge hjn (by omega)) n_⟩ | refine ⟨fun n_ => absurd (show ¬ nI (A 246) ≤ nI j from nI_ge hjn (by omega)) n_, fun _ => ?_⟩ | refine ⟨fun y_ => absurd y_ (show ¬ nI (A 246) ≤ nI j from nI_ge hjn (by omega)), fun _ => ?_⟩ | refine ⟨fun _ => ?_, fun y_ => absurd y_ (show ¬ nI (A 246) ≤ nI j from nI_ge hjn (by omega))⟩)
          refine ⟨fun z => ih2 (j + 1) w (by omega) fw lw (fun l hl bl => ?_), fun z => ?_⟩
          · by_cases y : l = j
            · rw [y, z] at bl; exact absurd bl (by decide)
            · exact lc l (by omega) bl
          · have a2 : 10 * nI s + nI j = nI (10 * s + j) := by rw [n_10, nI_mul, nI_add]
            rw [nI_clamp (show j < 2 ^ 31 by omega), rw'.2.2.1 j hjn, n100 fw.1, a2, nI_clamp (show 10 * s + j < 2 ^ 31 by omega)]
            refine ⟨(vp_nI (by omega)).mpr (by omega), m_leftFrom fw.1 rw' hsn (wl.2 j hjn).1 rfl rfl (fun l hl hb => ?_) ⟨_, rfl, fw.1, ?_⟩⟩
            · have := up_or (show s < 1024 by omega) (show l < 10 by omega) hb
              exact lw _ l this (Nat.or_lt_two_pow hsn (Nat.pow_lt_pow_right (by decide) hl)) hl (by rw [tb_o, decide_eq_true rfl, Bool.or_true])
            rw [n112 fw.1]
            refine ⟨(vp_nI (by omega)).mpr (by omega), ?_⟩
            rintro h29 rfl
            refine ih2 (j + 1) _ (by omega) ⟨sh_si fw.1, by rw [ah_x_si]; exact fw.2.1, fun a n1 => eqc_si (fw.2.2 a n1) n1⟩ (fun s' l h1 h2 h3 h4 => by rw [ah_i_sn (by omega)]; exact lw s' l h1 h2 h3 h4) (fun l hl bl => ?_)
            by_cases y : l = j
            · rw [y, ah_i_ss]
            · rw [ah_i_sn (by omega)]; exact lc l (by omega) bl
      exact l43 (A 246) 0 u (by omega) fu lf (fun l hl => absurd hl (by omega))
  have p0 : 0 < 2 ^ A 246 := Nat.two_pow_pos _
  exact l36 (2 ^ A 246 - 1) _ h rfl (by omega) ⟨hs, rfl, fun _ _ => eqc_rfl⟩ (fun s' l h1 h2 => absurd h2 (by omega))
theorem rel_round (X : XP KXc RXc WX) (hW : hWp KXc RXc) (hS : SXp SX) (W : Wp1 WX wkX Cwk) (x1 x2 : Int32) : lw_RC (Inv TXm (CCg KXc RXc WX) (CMg SX) (n + 1)) (Inv TXm (CCg KXc RXc WX) (CMg SX) n) mX11_round mX12_round [.int x1, .int x2] := by
  intro h hI
  obtain ⟨hs, A, p⟩ := pre_of hI
  have p' := p
  obtain ⟨⟨B0, B1, d, D, wf, tn, _⟩, cc, cm⟩ := p'
  have tw := cTw_of wf tn
  have h10 := wf.2.1.1
  have wl := wf.2.1
  have done : (ab_qi fun w h2 => -1 = w ∧ Inv TXm (CCg KXc RXc WX) (CMg SX) n h2) (some (.int (-1))) h := ⟨_, rfl, rfl, inv_less hs p⟩
  -- the model
  have mod : ∀ (g : ah_T) (c : Nat) (v : Int32), Sh g → preQ KXc RXc WX SX n A g → c < 12 → -1 ≤ x2 → ¬ f_X11_isIn (nI c) 12 = 0 → (wrR A c x2 v ∨ (v = -1 ∧ ∃ i, i < 2 ^ 31 ∧ x2 = nI i ∧ A 246 ≤ i)) → Mt mX12_round [.ref 82, .int (nI c), .int x2] g (ab_qi fun w h2 => v = w ∧ Inv TXm (CCg KXc RXc WX) (CMg SX) n h2) := by
    intro g c v sg pg hc hx y rv
    have mq := mQs_p pg
    have mt := mq.2.2.1
    refine T_X12_round sg _ _ ?_
    simp only [q_corner]
    (first | refine ⟨fun _ => ?_, fun n_ => absurd (y) n_⟩ | refine ⟨fun n_ => absurd (y) n_, fun _ => ?_⟩ | refine ⟨fun y_ => absurd y_ (y), fun _ => ?_⟩ | refine ⟨fun _ => ?_, fun y_ => absurd y_ (y)⟩)
    (first | refine ⟨fun _ => ?_, fun n_ => absurd (hx) n_⟩ | refine ⟨fun n_ => absurd (hx) n_, fun _ => ?_⟩ | refine ⟨fun y_ => absurd y_ (hx), fun _ => ?_⟩ | refine ⟨fun _ => ?_, fun y_ => absurd y_ (hx)⟩)
    refine m_looks sg mt (fun h3 f3 d3 => ⟨rfl, f3.1, ?_⟩)
    have mw3 : mWy A h3 := by
      have e := (f3.2.2.1 84 (by decide) (by decide) (by decide) (by decide) (by decide) (by decide)).1
      have := mt.1
      unfold mWy at this ⊢
      simp only [e]
      exact this
    refine m_measures (s := noS) (.inl rfl) f3.1 mw3 0 (fun v hv => ?_) (fun h6 s6 x6 e6 d6 => ⟨rfl, s6, ?_⟩)
    · rw [isIn_bt _ (show v < 32 by omega), b_0]
      exact ⟨fun _ z => z, fun _ => rfl⟩
    have rm : rmO A h6 := ⟨wl, by rw [(e6 82 (by decide)).1]; exact d3.2.1, fun l hl => by rw [(e6 100 (by decide)).1]; exact (d3.2.2.2.2.1 l hl).1, d6⟩
    rw [rm.2.1, nI_full (by omega)]
    refine m_round s6 rm hc hx (fun u w fu rw' => ⟨_, rfl, ?_, ?_⟩)
    · rcases rv with q | ⟨q1, i, i31, q2, q3⟩
      · exact wrR_u q rw'
      · rcases rw' with ⟨_, r2⟩ | ⟨_, ⟨r1, _⟩ | ⟨j, j31, r1, r2⟩⟩
        · rw [q1, r2]
        · rw [q2] at r1; exact absurd r1 (nI_m1 i31)
        · rw [q2, nI_eq i31 j31] at r1
          subst r1
          rcases r2 with r2 | r2
          · omega
          · rw [q1, r2.2]
    · have e36 : mdF h3 h6 := ⟨s6, x6, fun a ha => e6 a (by omega), fun j _ => (e6 82 (by decide)).1 j⟩
      have e6u : mdF h6 u := ⟨fu.1, fu.2.1, fun a ha => fu.2.2 a (by omega), fun j _ => (fu.2.2 82 (by decide)).1 j⟩
      have f := mdF_t (mdF_l f3) (mdF_t e36 e6u)
      have q82 : ∀ j, j ≠ 41 → j ≠ 42 → j ≠ 43 → ah_i u 82 j = ah_i g 82 j := fun j n1 n2 n3 => by rw [(fu.2.2 82 (by decide)).1, (e6 82 (by decide)).1, f3.2.2.2 j n1 n2 n3]
      have qa : ∀ a, (a = 95 ∨ a = 96 ∨ a = 97 ∨ a = 109 ∨ a = 110 ∨ a = 111) → ∀ j, ah_i u a j = ah_i g a j := fun a ha j => by rw [(fu.2.2 a (by omega)).1, (e6 a (by omega)).1, (f3.2.2.1 a (by omega) (by omega) (by omega) (by omega) (by omega) (by omega)).1]
      exact inv_md X hW hS pg f (mKn_e (fun a ha => qa a (by omega)) (q82 29 (by decide) (by decide) (by decide)) (q82 1 (by decide) (by decide) (by decide)) mq.2.1) (mNg_e (fun a ha => qa a (by omega)) (q82 49 (by decide) (by decide) (by decide)) (q82 1 (by decide) (by decide) (by decide)) pg.2.2.2.2.2.2.1) (.inl (q82 49 (by decide) (by decide) (by decide)))
  refine T_X11_round hs _ _ ⟨fun y => ⟨_, rfl, hs, ?_⟩, fun y1 => ⟨fun y => ⟨_, rfl, hs, ?_⟩, fun y2 => ⟨fun y3 => ?_, fun y => ⟨_, rfl, hs, ?_⟩⟩⟩⟩
  · refine T_X12_round hs _ _ ?_
    simp only [q_corner]
    (first | refine ⟨fun _ => ?_, fun n_ => absurd (y) n_⟩ | refine ⟨fun n_ => absurd (y) n_, fun _ => ?_⟩ | refine ⟨fun y_ => absurd y_ (y), fun _ => ?_⟩ | refine ⟨fun _ => ?_, fun y_ => absurd y_ (y)⟩)
    exact done
  · refine T_X12_round hs _ _ ?_
    simp only [q_corner]
    (first | refine ⟨fun _ => ?_, fun n_ => absurd (y1) n_⟩ | refine ⟨fun n_ => absurd (y1) n_, fun _ => ?_⟩ | refine ⟨fun y_ => absurd y_ (y1), fun _ => ?_⟩ | refine ⟨fun _ => ?_, fun y_ => absurd y_ (y1)⟩)
    (first | refine ⟨fun _ => ?_, fun n_ => absurd (show ¬ -1 ≤ x2 from fun z => by
      have a := Int32.lt_iff_toInt_lt.mp y
      have b := Int32.le_iff_toInt_le.mp z
      omega) n_⟩ | refine ⟨fun n_ => absurd (show ¬ -1 ≤ x2 from fun z => by
      have a := Int32.lt_iff_toInt_lt.mp y
      have b := Int32.le_iff_toInt_le.mp z
      omega) n_, fun _ => ?_⟩ | refine ⟨fun y_ => absurd y_ (show ¬ -1 ≤ x2 from fun z => by
      have a := Int32.lt_iff_toInt_lt.mp y
      have b := Int32.le_iff_toInt_le.mp z
      omega), fun _ => ?_⟩ | refine ⟨fun _ => ?_, fun y_ => absurd y_ (show ¬ -1 ≤ x2 from fun z => by
      have a := Int32.lt_iff_toInt_lt.mp y
      have b := Int32.le_iff_toInt_le.mp z
      omega)⟩)
    exact done
  rotate_left
  · obtain ⟨c, hc, rfl⟩ := q_isn (n := 12) (by decide) y1
    have hx : -1 ≤ x2 := Int32.le_iff_toInt_le.mpr (by
      by_cases z : (-1 : Int32).toInt ≤ x2.toInt
      · exact z
      · exact absurd (Int32.lt_iff_toInt_lt.mpr (by omega)) y2)
    rw [tw.1.2.1] at y
    have x0 : ¬ x2 < 0 := fun z => y (by
      have a := Int32.lt_iff_toInt_lt.mp z
      have e0 : (0 : Int32).toInt = 0 := rfl
      rw [e0] at a
      refine Int32.lt_iff_toInt_lt.mpr ?_
      rw [nI_toInt (by omega)]
      omega)
    obtain ⟨i, i31, ei⟩ := nI_of3 x0
    rw [ei, nI_ltI i31 (by omega)] at y
    exact mod h c (-1) hs (preQ_less p) hc hx y1 (.inr ⟨rfl, i, i31, ei, by omega⟩)
  · obtain ⟨c, hc, rfl⟩ := q_isn (n := 12) (by decide) y1
    have hx : -1 ≤ x2 := Int32.le_iff_toInt_le.mpr (by
      by_cases z : (-1 : Int32).toInt ≤ x2.toInt
      · exact z
      · exact absurd (Int32.lt_iff_toInt_lt.mpr (by omega)) y2)
    rw [tw.1.2.1] at y3
    refine lk1 hs X hS p (fun h6 g' s6 p6 lk6 pq => ?_)
    have kx6 : KXc h6 := lk6.2.2.1
    have rx6 : RXc A h6 := lk6.2.2.2.1
    have cor6 := lk6.1
    refine c_findRound s6 cor6.2.2.2.1.2.2.1 cor6.1.1 kx6.1 rx6.2.2.1 rx6.2.2.2 hc rfl (fun g b f kg cg i13 rr => ⟨rfl, f.1, ?_⟩)
    have x6 := s6.2.2
    have eS : ∀ a, a < 123 → a ≠ 29 → a ≠ 32 → a ≠ 36 → a ≠ 37 → eqc h6 g a := fun a h1 n1 n2 n3 n4 => f.2.2.2.2.1 a (by omega) n1 n2 n3 n4 (by have := f.2.2.1; omega)
    have lg := lkO_rd s6 W f ⟨kg, by rw [(eS 63 (by omega) (by omega) (by omega) (by omega) (by omega)).1]; exact kx6.2.1, by rw [(eS 65 (by omega) (by omega) (by omega) (by omega) (by omega)).1]; exact kx6.2.2⟩ ⟨rx6.1, rx6.2.1, cg, .inr ⟨c, hc, i13, rr⟩⟩ lk6
    have pg := preQ_rd s6 f lg p6 hS
    rcases rr with ⟨ar, r2, r3⟩ | ⟨nr, r2⟩
    · have fin := rv_fin (m := 2 ^ A 246 - 1) (co_wl wl) ar
      rw [r2]
      refine ⟨fun z => ⟨_, rfl, f.1, mod g c _ f.1 pg hc hx y1 (.inl (.inr ⟨ar, .inl ⟨z, rfl⟩⟩))⟩, fun z => ⟨fun _ => ?_, fun w => absurd w (nI_m1 (by omega))⟩⟩
      have x0 : ¬ x2 < 0 := by
        intro y
        have a := Int32.lt_iff_toInt_lt.mp y
        have b := Int32.le_iff_toInt_le.mp hx
        have e0 : (0 : Int32).toInt = 0 := rfl
        have e1 : (-1 : Int32).toInt = -1 := by decide
        rw [e0] at a
        rw [e1] at b
        exact z (Int32.toInt_inj.mp (by rw [e1]; omega))
      obtain ⟨i, i31, rfl⟩ := nI_of3 x0
      rw [nI_ltI i31 (by omega)] at y3
      rw [nI_clamp i31, sh_n f.1 32 10 (by decide) (by decide) rfl, r3 i y3]
      exact ⟨(vp_nI i31).mpr (by omega), _, rfl, f.1, mod g c _ f.1 pg hc hx y1 (.inl (.inr ⟨ar, .inr ⟨i, i31, rfl, .inl ⟨y3, rfl⟩⟩⟩))⟩
    · rw [r2]
      have fin := mod g c (-1) f.1 pg hc hx y1 (.inl (.inl ⟨nr, rfl⟩))
      exact ⟨fun _ => ⟨_, rfl, f.1, fin⟩, fun _ => ⟨fun w => absurd rfl w, fun _ => ⟨_, rfl, f.1, fin⟩⟩⟩
end RN
