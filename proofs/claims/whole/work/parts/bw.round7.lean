/-! ===== rounds: the model ===== -/
def wrR (A : Nat → Nat) (c : Nat) (x v : Int32) : Prop := (¬ alR A (A 246) (coL A) c ∧ v = -1) ∨ (alR A (A 246) (coL A) c ∧ ((x = -1 ∧ v = nI (rG A (A 246) (coL A) (2 ^ A 246 - 1) c)) ∨ ∃ i, i < 2 ^ 31 ∧ x = nI i ∧ ((i < A 246 ∧ v = nI (rRow A (A 246) (coL A) c i)) ∨ (A 246 ≤ i ∧ v = -1))))
/-- what the model's round looks at -/
def rmO (A : Nat → Nat) (h : ah_T) : Prop := wfL A ∧ ah_i h 82 41 = nI (A 246) ∧ (∀ l, l < A 246 → ah_i h 100 l = nI (coL A l)) ∧ ∀ x y, x < 12 → y < 12 → dst (Ew A noS) x y (ah_i h 98 (12 * x + y))
def rmF (h g : ah_T) : Prop := Sh g ∧ ah_x g = ah_x h ∧ ∀ a, a ≠ 112 → eqc h g a
section RM
variable {A : Nat → Nat} {h g u : ah_T} {a s m x y c n l k : Nat}
theorem wrR_u {x v v' : Int32} (p : wrR A c x v) (q : wrR A c x v') : v = v' := by
  rcases p with ⟨p1, p2⟩ | ⟨p1, p2⟩ <;> rcases q with ⟨q1, q2⟩ | ⟨q1, q2⟩
  · rw [p2, q2]
  · exact absurd q1 p1
  · exact absurd p1 q1
  · rcases p2 with ⟨a1, a2⟩ | ⟨i, i31, a1, a2⟩ <;> rcases q2 with ⟨b1, b2⟩ | ⟨j, j31, b1, b2⟩
    · rw [a2, b2]
    · rw [a1] at b1; exact absurd b1.symm (nI_m1 j31)
    · rw [a1] at b1; exact absurd b1 (nI_m1 i31)
    · rw [a1, nI_eq i31 j31] at b1
      subst b1
      rcases a2 with ⟨c1, c2⟩ | ⟨c1, c2⟩ <;> rcases b2 with ⟨d1, d2⟩ | ⟨d1, d2⟩
      · rw [c2, d2]
      · omega
      · omega
      · rw [c2, d2]
theorem rv_inf (h10 : n ≤ 10) (co : Nat → Nat) (w2 : ∀ l, l < n → co l < 12) (no : ¬ alR A n co c) (hd : ∀ l, l < n → dS A c (co l) < 12 ∨ dS A c (co l) = 1000000) : rG A n co (2 ^ n - 1) c = 1000000 := by
  have : ∃ l, l < n ∧ dS A c (co l) = 1000000 := by
    by_cases z : ∃ l, l < n ∧ dS A c (co l) = 1000000
    · exact z
    · exact absurd (fun l hl => (hd l hl).resolve_right (fun y => z ⟨l, hl, y⟩)) no
  obtain ⟨l, hl, e⟩ := this
  have g := mv_ge (D := dS A) (P := pG n co (2 ^ n - 1)) (a := c) (p := co l) (dS_tri A) (pL_12 ⟨h10, w2⟩) ⟨l, hl, by rw [tb_full, decide_eq_true hl], rfl⟩
  unfold rG
  omega
theorem cpl (hl : l < n) (hb : s.testBit l = false) : (2 ^ n - 1) ^^^ (s ||| 2 ^ l) = ((2 ^ n - 1) ^^^ s) ^^^ 2 ^ l := by
  apply Nat.eq_of_testBit_eq
  intro i
  rw [Nat.testBit_xor, tb_full, tb_o, tb_x, Nat.testBit_xor, tb_full]
  by_cases z : l = i
  · subst z
    rw [hb, decide_eq_true hl, decide_eq_true rfl]; rfl
  · rw [decide_eq_false z, Bool.or_false, Bool.xor_false]
theorem cpl2 : (2 ^ n - 1) ^^^ ((2 ^ n - 1) ^^^ m) = m := by
  apply Nat.eq_of_testBit_eq
  intro i
  rw [Nat.testBit_xor, Nat.testBit_xor, tb_full]
  cases decide (i < n) <;> cases m.testBit i <;> rfl
theorem tb_cpl (hl : l < n) : ((2 ^ n - 1) ^^^ s).testBit l = !s.testBit l := by
  rw [Nat.testBit_xor, tb_full, decide_eq_true hl]
  cases s.testBit l <;> rfl
theorem rmO_f (f : rmF h g) (r : rmO A h) : rmO A g := by
  obtain ⟨r1, r2, r3, r4⟩ := r
  exact ⟨r1, by rw [(f.2.2 82 (by decide)).1]; exact r2, fun l hl => by rw [(f.2.2 100 (by decide)).1]; exact r3 l hl, fun x y hx hy => by rw [(f.2.2 98 (by decide)).1]; exact r4 x y hx hy⟩
theorem f_sb (r : rmO A u) (hx : x < 12) (hy : y < 12) : f_X12_stepsBetween u (nI x) (nI y) = nI (dS A x y) := by
  unfold f_X12_stepsBetween
  have e : 12 * nI x + nI y = nI (12 * x + y) := by rw [n_12, nI_mul, nI_add]
  rw [e, nI_clamp (show 12 * x + y < 2 ^ 31 by omega)]
  rcases dS_v (r.2.2.2 x y hx hy) with ⟨v1, v2⟩ | ⟨v1, v2⟩
  · rw [if_pos v1, v2]; rfl
  · rw [if_neg (by rw [v1]; exact nI_m1 (by omega)), v1]
theorem f_via (r : rmO A u) (hx : x < 12) (hl : l < A 246) {w : Nat} (hw : w ≤ 1000000) (hs : s < 1024) (e : ah_i u 112 (10 * (s ||| 2 ^ l) + l) = nI w) : f_X12_viaLamp u (nI s) (nI x) (nI l) = nI (min 1000000 (dS A x (coL A l) + w)) := by
  have wl := r.1
  have h10 := wl.1
  have t := dS_top A x (coL A l)
  have o := no_lt hs (p2_lt (show l < 10 by omega))
  unfold f_X12_viaLamp
  have a1 : 10 * nI (s ||| 2 ^ l) + nI l = nI (10 * (s ||| 2 ^ l) + l) := by rw [n_10, nI_mul, nI_add]
  rw [nI_clamp (show l < 2 ^ 31 by omega), r.2.2.1 l hl, f_sb (y := coL A l) r hx (wl.2 l hl).1, nI_1sh (by omega), nI_or, a1, nI_clamp (show 10 * (s ||| 2 ^ l) + l < 2 ^ 31 by omega), e, nI_add, n_1000000, f_lesser _ _ (by omega) (by omega)]
theorem m_leftFrom {Q : Option Value → ah_T → Prop} {x1 x2 : Int32} (hs : Sh u) (r : rmO A u) (hsn : s < 2 ^ A 246) (ha : a < 12) (e1 : x1 = nI s) (e2 : x2 = nI a) (lf : ∀ l, l < A 246 → s.testBit l = false → ah_i u 112 (10 * (s ||| 2 ^ l) + l) = nI (rG A (A 246) (coL A) ((2 ^ A 246 - 1) ^^^ (s ||| 2 ^ l)) (coL A l))) (hq : Q (some (.int (nI (rG A (A 246) (coL A) ((2 ^ A 246 - 1) ^^^ s) a)))) u) : Mt mX12_leftFrom [.ref 82, .int x1, .int x2] u Q := by
  subst e1 e2
  have wl := r.1
  have h10 := wl.1
  have p2 := p2_10 h10
  have hs1 : s < 1024 := by omega
  have lp : ∀ (x0 : Nat), ((x0 = 1000000 ∧ ∃ l, l < A 246 ∧ ((2 ^ A 246 - 1) ^^^ s).testBit l = true) ∨ (x0 = 0 ∧ ∀ l, l < A 246 → ((2 ^ A 246 - 1) ^^^ s).testBit l = false)) → ∀ (q j best : Nat), j + q = A 246 → best ≤ 1000000 → (∀ l, l < j → ((2 ^ A 246 - 1) ^^^ s).testBit l = true → best ≤ dS A a (coL A l) + rG A (A 246) (coL A) (((2 ^ A 246 - 1) ^^^ s) ^^^ 2 ^ l) (coL A l)) → (best = x0 ∨ best = 1000000 ∧ x0 = 1000000 ∨ ∃ l, l < j ∧ ((2 ^ A 246 - 1) ^^^ s).testBit l = true ∧ best = dS A a (coL A l) + rG A (A 246) (coL A) (((2 ^ A 246 - 1) ^^^ s) ^^^ 2 ^ l) (coL A l)) → Wp mX12_leftFrom Q 0 0 22 [some (.ref 82), some (.int (nI s)), some (.int (nI a)), some (.int (nI best)), some (.int (nI j))] [] u := by
    intro x0 hx0 q
    induction q with
    | zero =>
      intro j best hj b1 b2 b3
      have e9 : j = A 246 := by omega
      subst e9
      refine T_X12_leftFrom_22 hs _ _ _ _ ?_
      rw [r.2.1]
      (first | refine ⟨fun _ => ?_, fun n_ => absurd (show nI (A 246) ≤ nI (A 246) from nI_le (Nat.le_refl _) (by omega)) n_⟩ | refine ⟨fun n_ => absurd (show nI (A 246) ≤ nI (A 246) from nI_le (Nat.le_refl _) (by omega)) n_, fun _ => ?_⟩ | refine ⟨fun y_ => absurd y_ (show nI (A 246) ≤ nI (A 246) from nI_le (Nat.le_refl _) (by omega)), fun _ => ?_⟩ | refine ⟨fun _ => ?_, fun y_ => absurd y_ (show nI (A 246) ≤ nI (A 246) from nI_le (Nat.le_refl _) (by omega))⟩)
      have : best = rG A (A 246) (coL A) ((2 ^ A 246 - 1) ^^^ s) a := by
        rcases hx0 with ⟨y1, y2⟩ | ⟨y1, y2⟩
        · refine rv_min (co_wl wl) y2 b1 b2 ?_
          rcases b3 with z | z | z
          · exact .inl (by rw [z, y1])
          · exact .inl z.1
          · exact .inr z
        · rw [rv_0 y2]
          rcases b3 with z | z | ⟨l, z1, z2, _⟩
          · rw [z, y1]
          · omega
          · rw [y2 l z1] at z2; exact absurd z2 (by decide)
      rw [this]
      exact hq
    | succ q ih =>
      intro j best hj b1 b2 b3
      have hjn : j < A 246 := by omega
      have tj := tb_cpl (s := s) hjn
      refine T_X12_leftFrom_22 hs _ _ _ _ ?_
      rw [r.2.1, isIn_bt _ (show j < 32 by omega), nb (by omega), nI_1]
      (first | refine ⟨fun _ => ?_, fun n_ => absurd (show ¬ nI (A 246) ≤ nI j from nI_ge hjn (by omega)) n_⟩ | refine ⟨fun n_ => absurd (show ¬ nI (A 246) ≤ nI j from nI_ge hjn (by omega)) n_, fun _ => ?_⟩ | refine ⟨fun y_ => absurd y_ (show ¬ nI (A 246) ≤ nI j from nI_ge hjn (by omega)), fun _ => ?_⟩ | refine ⟨fun _ => ?_, fun y_ => absurd y_ (show ¬ nI (A 246) ≤ nI j from nI_ge hjn (by omega))⟩)
      refine ⟨fun z => ?_, fun z => ?_⟩
      · have zt : s.testBit j = true := by cases w : s.testBit j; exact absurd w z; rfl
        rw [zt] at tj
        refine ih (j + 1) best (by omega) b1 (fun l hl bl => ?_) ?_
        · by_cases w : l = j
          · rw [w, tj] at bl; exact absurd bl (by decide)
          · exact b2 l (by omega) bl
        · rcases b3 with w | w | ⟨l, w1, w2⟩
          · exact .inl w
          · exact .inr (.inl w)
          · exact .inr (.inr ⟨l, by omega, w2⟩)
      · rw [z] at tj
        have e := lf j hjn z
        have c12 : coL A j < 12 := (wl.2 j hjn).1
        have o := no_lt hs1 (p2_lt (show j < 10 by omega))
        have r1 := rv_le A (A 246) (coL A) ((2 ^ A 246 - 1) ^^^ (s ||| 2 ^ j)) (coL A j)
        have t := dS_top A a (coL A j)
        have v := f_via r ha hjn r1 hs1 e
        have a1 : 12 * nI a + nI (coL A j) = nI (12 * a + coL A j) := by rw [n_12, nI_mul, nI_add]
        have a2 : 10 * nI (s ||| 2 ^ j) + nI j = nI (10 * (s ||| 2 ^ j) + j) := by rw [n_10, nI_mul, nI_add]
        rw [v, nI_1sh (by omega), nI_or, a2, nI_clamp (show j < 2 ^ 31 by omega), r.2.2.1 j hjn, a1, f_lesser _ _ (by omega) (by omega), sh_n hs 100 10 (by decide) (by decide) rfl, sh_n hs 98 144 (by decide) (by decide) rfl, sh_n hs 112 10240 (by decide) (by decide) rfl]
        refine ⟨(vp_nI (by omega)).mpr (by omega), (vp_nI (by omega)).mpr (by omega), fun _ => (vp_nI (by omega)).mpr (by omega), (vp_nI (by omega)).mpr (by omega), ?_⟩
        rw [cpl hjn z] at r1 ⊢
        have x0m : x0 = 1000000 := by
          rcases hx0 with y | y
          · exact y.1
          · have := y.2 j hjn
            rw [tj] at this
            exact absurd this (by decide)
        obtain ⟨V, eV⟩ : ∃ V, V = dS A a (coL A j) + rG A (A 246) (coL A) (((2 ^ A 246 - 1) ^^^ s) ^^^ 2 ^ j) (coL A j) := ⟨_, rfl⟩
        rw [← eV]
        refine ih (j + 1) _ (by omega) (by omega) (fun l hl bl => ?_) ?_
        · by_cases w : l = j
          · rw [w, ← eV]; omega
          · have := b2 l (by omega) bl
            omega
        · by_cases w : V < best
          · exact .inr (.inr ⟨j, by omega, tj, by rw [← eV]; omega⟩)
          · rw [show min best (min 1000000 V) = best by omega]
            rcases b3 with w | w | ⟨l, w1, w2⟩
            · exact .inl w
            · exact .inr (.inl w)
            · exact .inr (.inr ⟨l, by omega, w2⟩)
  refine T_X12_leftFrom hs _ _ ?_
  rw [r.2.1, nI_full (by omega), nI_eq (show s < 2 ^ 31 by omega) (show 2 ^ A 246 - 1 < 2 ^ 31 by omega)]
  refine ⟨fun z => ?_, fun z => ?_⟩
  · have ex : ∃ l, l < A 246 ∧ ((2 ^ A 246 - 1) ^^^ s).testBit l = true := by
      by_cases w : ∃ l, l < A 246 ∧ ((2 ^ A 246 - 1) ^^^ s).testBit l = true
      · exact w
      · exfalso
        refine z (set_ext (n := A 246) hsn (by omega) (fun i hi => ?_))
        rw [tb_full, decide_eq_true hi]
        cases y : s.testBit i
        · exact absurd ⟨i, hi, by rw [tb_cpl hi, y]; rfl⟩ w
        · rfl
    exact lp 1000000 (.inl ⟨rfl, ex⟩) (A 246) 0 1000000 (by omega) (Nat.le_refl _) (fun l hl => absurd hl (by omega)) (.inl rfl)
  · refine lp 0 (.inr ⟨rfl, fun l hl => ?_⟩) (A 246) 0 0 (by omega) (by omega) (fun l hl => absurd hl (by omega)) (.inl rfl)
    rw [tb_cpl hl, z, tb_full, decide_eq_true hl]; rfl
end RM
