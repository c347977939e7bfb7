/-! ===== the model's nights ===== -/
def nst0 (A : Nat → Nat) (N : Nd) : Ns := (fun l => N.gu && decide (l + 1 = N.n), fun _ => 0, fun _ => 0, fun l => if l < A 246 then A (62 + 3 * l) else 240)
/-- a night ahead of a minute -/
noncomputable def nSt (A : Nat → Nat) (N : Nd) : Nat → Ns
  | 0 => nst0 A N
  | m + 1 => miM A N (nSt A N m) m
noncomputable def outM (A : Nat → Nat) (N : Nd) (m l : Nat) : Bool := goM A N (nSt A N m) m l
noncomputable def litM (A : Nat → Nat) (N : Nd) (m l : Nat) : Bool := liM A N (nSt A N m) (goM A N (nSt A N m) m) m l
noncomputable def oilM (A : Nat → Nat) (N : Nd) (m l : Nat) : Nat := (nSt A N (m + 1)).oi l
def ct (f : Nat → Nat → Bool) (n : Nat) : Nat → Nat
  | 0 => 0
  | m + 1 => ct f n m + cb (f m) n
theorem ct_le (f : Nat → Nat → Bool) (n : Nat) : ∀ m, ct f n m ≤ m * n
  | 0 => by show 0 ≤ 0 * n; omega
  | m + 1 => by
    have a := ct_le f n m
    have b := cb_le (f m) n
    show ct f n m + cb (f m) n ≤ (m + 1) * n
    rw [Nat.succ_mul]
    omega
/-- what the model keeps of a night till ahead of a minute -/
def mNt (A : Nat → Nat) (N : Nd) (M : Nat) (g : ah_T) : Prop := ∀ m, m < M → mRw (litM A N m) (outM A N m) (oilM A N m) m N.n g
theorem mNt_fr {A : Nat → Nat} {N : Nd} {M : Nat} {g h : ah_T} (e : ∀ a, (a = 109 ∨ a = 110 ∨ a = 111) → ∀ j, ah_i h a j = ah_i g a j) (m : mNt A N M g) : mNt A N M h := fun k hk l hl => by
  rw [e 109 (by omega), e 110 (by omega), e 111 (by omega)]
  exact m k hk l hl
section MN
variable {A : Nat → Nat} {N : Nd} {h g h1 : ah_T} {S : Ns}
theorem m_nights {Q : Option Value → ah_T → Prop} (hs : Sh h) {x1 : Int32} (b : mBa A N h) (hn : N.n ≤ A 246 + 1) (hq : ∀ g M, ngF h g → mBa A N g → M ≤ 120 → mNt A N M g → ah_i g 82 47 = nI (ct (litM A N) N.n M) → ah_i g 82 48 = nI (ct (outM A N) N.n M) → (M = 120 ∨ (¬ x1 = 0 ∧ 0 < ct (outM A N) N.n M)) → Q none g) : Mt mX12_nights [.ref 82, .int x1] h Q := by
  have t246 : Int32.toNatClampNeg 246 = 246 := rfl
  have w10 := b.2.2.1.1.1
  have l81 : ∀ (q m : Nat) (g : ah_T), m + q = 120 → ngF h g → mBa A N g → mNS N (nSt A N m) g → mNt A N m g → ah_i g 82 47 = nI (ct (litM A N) N.n m) → ah_i g 82 48 = nI (ct (outM A N) N.n m) → Wp mX12_nights Q 0 0 81 [some (.ref 82), some (.int x1), some (.int (nI m))] [] g := by
    intro q
    induction q with
    | zero =>
      intro m g hm f bg n t k7 k8
      have e9 : m = 120 := by omega
      subst e9
      refine T_X12_nights_81 f.1 _ _ ?_
      (first | refine ⟨fun _ => ?_, fun n_ => absurd (show 120 ≤ nI 120 from nI_le (a := 120) (by omega) (by omega)) n_⟩ | refine ⟨fun n_ => absurd (show 120 ≤ nI 120 from nI_le (a := 120) (by omega) (by omega)) n_, fun _ => ?_⟩ | refine ⟨fun y_ => absurd y_ (show 120 ≤ nI 120 from nI_le (a := 120) (by omega) (by omega)), fun _ => ?_⟩ | refine ⟨fun _ => ?_, fun y_ => absurd y_ (show 120 ≤ nI 120 from nI_le (a := 120) (by omega) (by omega))⟩)
      exact hq g 120 f bg (by omega) t k7 k8 (.inl rfl)
    | succ q ih =>
      intro m g hm f bg n t k7 k8
      refine T_X12_nights_81 f.1 _ _ ?_
      (first | refine ⟨fun _ => ?_, fun n_ => absurd (show ¬ 120 ≤ nI m from nI_ge (b := 120) (by omega) (by omega)) n_⟩ | refine ⟨fun n_ => absurd (show ¬ 120 ≤ nI m from nI_ge (b := 120) (by omega) (by omega)) n_, fun _ => ?_⟩ | refine ⟨fun y_ => absurd y_ (show ¬ 120 ≤ nI m from nI_ge (b := 120) (by omega) (by omega)), fun _ => ?_⟩ | refine ⟨fun _ => ?_, fun y_ => absurd y_ (show ¬ 120 ≤ nI m from nI_ge (b := 120) (by omega) (by omega))⟩)
      refine m_minuteOf f.1 rfl (by omega) bg n (fun g1 r => ⟨rfl, r.1.1, ?_⟩)
      obtain ⟨r1, r2, r3, r4, r5, r6, r7⟩ := r
      have f1 := ngF_t f r1
      have t1 : mNt A N (m + 1) g1 := by
        intro k hk l hl
        by_cases z : k = m
        · subst z
          exact r4 l hl
        · obtain ⟨y1, y2, y3⟩ := r5 (10 * k + l) (by omega)
          rw [y1, y2, y3]
          exact t k (by omega) l hl
      have a7 : ah_i g1 82 47 = nI (ct (litM A N) N.n (m + 1)) := by rw [r6, k7, nI_add]; rfl
      have a8 : ah_i g1 82 48 = nI (ct (outM A N) N.n (m + 1)) := by rw [r7, k8, nI_add]; rfl
      rw [nI_1]
      refine ⟨fun _ => ih (m + 1) g1 (by omega) f1 r2 r3 t1 a7 a8, fun z => ?_⟩
      rw [a8]
      have lc := ct_le (outM A N) N.n (m + 1)
      have lc2 : (m + 1) * N.n ≤ 120 * 10 := Nat.mul_le_mul (by omega) w10
      rcases Nat.eq_zero_or_pos (ct (outM A N) N.n (m + 1)) with y | y
      · rw [y]
        (first | refine ⟨fun _ => ?_, fun n_ => absurd (show nI 0 ≤ 0 by decide) n_⟩ | refine ⟨fun n_ => absurd (show nI 0 ≤ 0 by decide) n_, fun _ => ?_⟩ | refine ⟨fun y_ => absurd y_ (show nI 0 ≤ 0 by decide), fun _ => ?_⟩ | refine ⟨fun _ => ?_, fun y_ => absurd y_ (show nI 0 ≤ 0 by decide)⟩)
        exact ih (m + 1) g1 (by omega) f1 r2 r3 t1 a7 a8
      · (first | refine ⟨fun _ => ?_, fun n_ => absurd (show ¬ nI (ct (outM A N) N.n (m + 1)) ≤ 0 from nI_ge (b := ct (outM A N) N.n (m + 1)) y (by omega)) n_⟩ | refine ⟨fun n_ => absurd (show ¬ nI (ct (outM A N) N.n (m + 1)) ≤ 0 from nI_ge (b := ct (outM A N) N.n (m + 1)) y (by omega)) n_, fun _ => ?_⟩ | refine ⟨fun y_ => absurd y_ (show ¬ nI (ct (outM A N) N.n (m + 1)) ≤ 0 from nI_ge (b := ct (outM A N) N.n (m + 1)) y (by omega)), fun _ => ?_⟩ | refine ⟨fun _ => ?_, fun y_ => absurd y_ (show ¬ nI (ct (outM A N) N.n (m + 1)) ≤ 0 from nI_ge (b := ct (outM A N) N.n (m + 1)) y (by omega))⟩)
        exact hq g1 (m + 1) f1 r2 (by omega) t1 a7 a8 (.inr ⟨z, y⟩)
  have l12 : ∀ (q x : Nat) (g : ah_T), x + q = N.n → ngF h g → mBa A N g → ah_i g 82 47 = 0 → ah_i g 82 48 = 0 → (∀ l, l < x → ah_i g 105 l = bI ((nst0 A N).bu l) ∧ ah_i g 103 l = nI 0 ∧ ah_i g 104 l = nO 0 ∧ ah_i g 102 l = nI ((nst0 A N).oi l)) → Wp mX12_nights Q 0 0 12 [some (.ref 82), some (.int x1), some (.int (nI x))] [] g := by
    intro q
    induction q with
    | zero =>
      intro x g hx f bg k7 k8 v
      have e9 : x = N.n := by omega
      subst e9
      have wl := bg.2.2.2.1.2.2.2.2.2.2.1
      refine T_X12_nights_12 f.1 _ _ ?_
      rw [bg.2.2.1.2.1]
      (first | refine ⟨fun _ => ?_, fun n_ => absurd (show nI N.n ≤ nI N.n from nI_le (by omega) (by omega)) n_⟩ | refine ⟨fun n_ => absurd (show nI N.n ≤ nI N.n from nI_le (by omega) (by omega)) n_, fun _ => ?_⟩ | refine ⟨fun y_ => absurd y_ (show nI N.n ≤ nI N.n from nI_le (by omega) (by omega)), fun _ => ?_⟩ | refine ⟨fun _ => ?_, fun y_ => absurd y_ (show nI N.n ≤ nI N.n from nI_le (by omega) (by omega))⟩)
      refine l81 120 0 g rfl f bg ⟨fun l hl => ⟨by show 0 < 120; omega, by show 0 ≤ 120; omega, ?_⟩, v⟩ (fun k hk => by omega) k7 k8
      show (if l < A 246 then A (62 + 3 * l) else 240) ≤ 240
      split
      · exact (wl.2 l (by assumption)).2.2.2
      · omega
    | succ q ih =>
      intro x g hx f bg k7 k8 v
      obtain ⟨b1, b2, ⟨d1, d2, d3, d4, d5, d6, d7⟩, ⟨w1, w2, w3, w4, w5, w6, w7, w8⟩, b5⟩ := bg
      have bg : mBa A N g := ⟨b1, b2, ⟨d1, d2, d3, d4, d5, d6, d7⟩, ⟨w1, w2, w3, w4, w5, w6, w7, w8⟩, b5⟩
      have hx2 : x < N.n := by omega
      have w10' := w7.1
      have vx : vp_in (nI x) 10 := (vp_nI (by omega)).mpr (by omega)
      have c0 : ((60 : Int32) + 3 * nI x) + 2 = nI (62 + 3 * x) := by rw [n_60, n_3, nI_mul, nI_add]; exact (nI_add _ 2).trans (congrArg nI (by omega))
      have vq : vp_in (nI (62 + 3 * x)) 5860 := (vp_nI (by omega)).mpr (by omega)
      have oil_e : ∀ {h3 : ah_T}, (∀ j, ah_i h3 84 j = ah_i g 84 j) → f_X12_oilOf h3 (nI x) = nI ((nst0 A N).oi x) := by
        intro h3 e3
        unfold f_X12_oilOf
        rw [t246, e3, w6]
        show _ = nI (if x < A 246 then A (62 + 3 * x) else 240)
        by_cases z : x < A 246
        · have y := w8 (3 * x + 2) (by omega)
          rw [show 60 + (3 * x + 2) = 62 + 3 * x by omega] at y
          rw [if_neg (nI_ge z (by omega)), if_pos z, c0, nI_clamp (show 62 + 3 * x < 2 ^ 31 by omega), e3, y]
        · rw [if_pos (nI_le (by omega) (by omega)), if_neg z]
          rfl
      have st : ∀ (h1 h2 h3 h4 : ah_T) (bb : Bool), bb = (nst0 A N).bu x → h1 = ah_si g 105 x (bI bb) → h2 = ah_si h1 103 x 0 → h3 = ah_si h2 104 x (-1) → h4 = ah_si h3 102 x (nI ((nst0 A N).oi x)) → Wp mX12_nights Q 0 0 12 [some (.ref 82), some (.int x1), some (.int (nI (x + 1)))] [] h4 := by
        rintro h1 h2 h3 h4 bb eb rfl rfl rfl rfl
        refine ih (x + 1) _ (by omega) (ngF_s (by unfold ngC; omega) (ngF_s (by unfold ngC; omega) (ngF_s (by unfold ngC; omega) (ngF_s (by unfold ngC; omega) f)))) (mBa_s (by unfold ngC; omega) (mBa_s (by unfold ngC; omega) (mBa_s (by unfold ngC; omega) (mBa_s (by unfold ngC; omega) bg)))) ?_ ?_ (fun l hl => ?_)
        · rw [ah_i_sn (by omega), ah_i_sn (by omega), ah_i_sn (by omega), ah_i_sn (by omega)]; exact k7
        · rw [ah_i_sn (by omega), ah_i_sn (by omega), ah_i_sn (by omega), ah_i_sn (by omega)]; exact k8
        · by_cases z : l = x
          · subst z
            refine ⟨?_, ?_, ?_, ?_⟩
            · rw [ah_i_sn (by omega), ah_i_sn (by omega), ah_i_sn (by omega), ah_i_ss, eb]
            · rw [ah_i_sn (by omega), ah_i_sn (by omega), ah_i_ss]; rfl
            · rw [ah_i_sn (by omega), ah_i_ss]; rfl
            · rw [ah_i_ss]
          · refine ⟨?_, ?_, ?_, ?_⟩
            · rw [ah_i_sn (by omega), ah_i_sn (by omega), ah_i_sn (by omega), ah_i_sn (by omega)]; exact (v l (by omega)).1
            · rw [ah_i_sn (by omega), ah_i_sn (by omega), ah_i_sn (by omega), ah_i_sn (by omega)]; exact (v l (by omega)).2.1
            · rw [ah_i_sn (by omega), ah_i_sn (by omega), ah_i_sn (by omega), ah_i_sn (by omega)]; exact (v l (by omega)).2.2.1
            · rw [ah_i_sn (by omega), ah_i_sn (by omega), ah_i_sn (by omega), ah_i_sn (by omega)]; exact (v l (by omega)).2.2.2
      refine T_X12_nights_12 f.1 _ _ ?_
      rw [d2]
      (first | refine ⟨fun _ => ?_, fun n_ => absurd (show ¬ nI N.n ≤ nI x from nI_ge (by omega) (by omega)) n_⟩ | refine ⟨fun n_ => absurd (show ¬ nI N.n ≤ nI x from nI_ge (by omega) (by omega)) n_, fun _ => ?_⟩ | refine ⟨fun y_ => absurd y_ (show ¬ nI N.n ≤ nI x from nI_ge (by omega) (by omega)), fun _ => ?_⟩ | refine ⟨fun _ => ?_, fun y_ => absurd y_ (show ¬ nI N.n ≤ nI x from nI_ge (by omega) (by omega))⟩)
      have cN : nI N.n - 1 = nI (N.n - 1) := nI_sub (b := 1) (by omega)
      rw [nI_1, c0, cN, nI_clamp (show x < 2 ^ 31 by omega), nI_eq (show x < 2 ^ 31 by omega) (show N.n - 1 < 2 ^ 31 by omega), d4, sh_n f.1 105 10 (by decide) (by decide) rfl, nar0', nar1']
      cases eg : N.gu with
      | false =>
        (first | refine ⟨fun _ => ?_, fun n_ => absurd (show (if false = true then (1 : Int32) else 0) = 0 by decide) n_⟩ | refine ⟨fun n_ => absurd (show (if false = true then (1 : Int32) else 0) = 0 by decide) n_, fun _ => ?_⟩ | refine ⟨fun y_ => absurd y_ (show (if false = true then (1 : Int32) else 0) = 0 by decide), fun _ => ?_⟩ | refine ⟨fun _ => ?_, fun y_ => absurd y_ (show (if false = true then (1 : Int32) else 0) = 0 by decide)⟩)
        refine ⟨vx, ?_⟩
        intro h1 q1
        have s1 : Sh h1 := by rw [q1]; exact sh_si f.1
        rw [sh_n s1 103 10 (by decide) (by decide) rfl]
        refine ⟨vx, ?_⟩
        intro h2 q2
        have s2 : Sh h2 := by rw [q2]; exact sh_si s1
        rw [sh_n s2 104 10 (by decide) (by decide) rfl]
        refine ⟨vx, ?_⟩
        intro h3 q3
        have s3 : Sh h3 := by rw [q3]; exact sh_si s2
        have e3 : ∀ j, ah_i h3 84 j = ah_i g 84 j := fun j => by rw [q3, ah_i_sn (by omega), q2, ah_i_sn (by omega), q1, ah_i_sn (by omega)]
        have ev := oil_e e3
        rw [ev, sh_n s3 84 5860 (by decide) (by decide) rfl, sh_n s3 102 10 (by decide) (by decide) rfl]
        refine ⟨fun _ => vq, vx, ?_⟩
        intro h4 q4
        exact st h1 h2 h3 h4 false (by show _ = (N.gu && _); rw [eg, Bool.false_and]) q1 q2 q3 q4
      | true =>
        (first | refine ⟨fun _ => ?_, fun n_ => absurd (show ¬ (if true = true then (1 : Int32) else 0) = 0 by decide) n_⟩ | refine ⟨fun n_ => absurd (show ¬ (if true = true then (1 : Int32) else 0) = 0 by decide) n_, fun _ => ?_⟩ | refine ⟨fun y_ => absurd y_ (show ¬ (if true = true then (1 : Int32) else 0) = 0 by decide), fun _ => ?_⟩ | refine ⟨fun _ => ?_, fun y_ => absurd y_ (show ¬ (if true = true then (1 : Int32) else 0) = 0 by decide)⟩)
        by_cases z : x = N.n - 1
        · (first | refine ⟨fun _ => ?_, fun n_ => absurd (z) n_⟩ | refine ⟨fun n_ => absurd (z) n_, fun _ => ?_⟩ | refine ⟨fun y_ => absurd y_ (z), fun _ => ?_⟩ | refine ⟨fun _ => ?_, fun y_ => absurd y_ (z)⟩)
          refine ⟨vx, ?_⟩
          intro h1 q1
          have s1 : Sh h1 := by rw [q1]; exact sh_si f.1
          rw [sh_n s1 103 10 (by decide) (by decide) rfl]
          refine ⟨vx, ?_⟩
          intro h2 q2
          have s2 : Sh h2 := by rw [q2]; exact sh_si s1
          rw [sh_n s2 104 10 (by decide) (by decide) rfl]
          refine ⟨vx, ?_⟩
          intro h3 q3
          have s3 : Sh h3 := by rw [q3]; exact sh_si s2
          have e3 : ∀ j, ah_i h3 84 j = ah_i g 84 j := fun j => by rw [q3, ah_i_sn (by omega), q2, ah_i_sn (by omega), q1, ah_i_sn (by omega)]
          have ev := oil_e e3
          rw [ev, sh_n s3 84 5860 (by decide) (by decide) rfl, sh_n s3 102 10 (by decide) (by decide) rfl]
          refine ⟨fun _ => vq, vx, ?_⟩
          intro h4 q4
          exact st h1 h2 h3 h4 true (by show _ = (N.gu && decide (x + 1 = N.n)); rw [eg, Bool.true_and]; exact (decide_eq_true (by omega)).symm) q1 q2 q3 q4
        · (first | refine ⟨fun _ => ?_, fun n_ => absurd (z) n_⟩ | refine ⟨fun n_ => absurd (z) n_, fun _ => ?_⟩ | refine ⟨fun y_ => absurd y_ (z), fun _ => ?_⟩ | refine ⟨fun _ => ?_, fun y_ => absurd y_ (z)⟩)
          refine ⟨vx, ?_⟩
          intro h1 q1
          have s1 : Sh h1 := by rw [q1]; exact sh_si f.1
          rw [sh_n s1 103 10 (by decide) (by decide) rfl]
          refine ⟨vx, ?_⟩
          intro h2 q2
          have s2 : Sh h2 := by rw [q2]; exact sh_si s1
          rw [sh_n s2 104 10 (by decide) (by decide) rfl]
          refine ⟨vx, ?_⟩
          intro h3 q3
          have s3 : Sh h3 := by rw [q3]; exact sh_si s2
          have e3 : ∀ j, ah_i h3 84 j = ah_i g 84 j := fun j => by rw [q3, ah_i_sn (by omega), q2, ah_i_sn (by omega), q1, ah_i_sn (by omega)]
          have ev := oil_e e3
          rw [ev, sh_n s3 84 5860 (by decide) (by decide) rfl, sh_n s3 102 10 (by decide) (by decide) rfl]
          refine ⟨fun _ => vq, vx, ?_⟩
          intro h4 q4
          exact st h1 h2 h3 h4 false (by show _ = (N.gu && decide (x + 1 = N.n)); rw [eg, Bool.true_and]; exact (decide_eq_false (by omega)).symm) q1 q2 q3 q4
  refine T_X12_nights hs _ ?_
  rintro h1 rfl h4 rfl
  refine l12 N.n 0 _ (by omega) (ngF_s (by unfold ngC; omega) (ngF_s (by unfold ngC; omega) (ngF_r hs))) (mBa_s (by unfold ngC; omega) (mBa_s (by unfold ngC; omega) b)) ?_ ?_ (fun l hl => by omega)
  · rw [ah_i_sn (by omega), ah_i_ss]
  · rw [ah_i_ss]
/-- the model's night as told, if it lies -/
def mNg (A : Nat → Nat) (h : ah_T) : Prop := ah_i h 82 49 = ah_i h 82 1 → mNt A (nd0 A) 120 h
/-- what the model's looking and its nights change -/
def lyF (h h' : ah_T) : Prop := Sh h' ∧ ah_x h' = ah_x h ∧ (∀ a, a ≠ 82 → a ≠ 93 → (a < 95 ∨ 111 < a ∨ a = 98) → eqc h h' a) ∧ ∀ j, j < 20 ∨ 49 < j → ah_i h' 82 j = ah_i h 82 j
theorem lyF_r (hs : Sh h) : lyF h h := ⟨hs, rfl, fun _ _ _ _ => eqc_rfl, fun _ _ => rfl⟩
theorem lyF_t (p : lyF h g) (q : lyF g h1) : lyF h h1 := ⟨q.1, by rw [q.2.1, p.2.1], fun a n1 n2 n3 => eqc_trans (p.2.2.1 a n1 n2 n3) (q.2.2.1 a n1 n2 n3), fun j hj => by rw [q.2.2.2 j hj, p.2.2.2 j hj]⟩
theorem lyF_l (p : lkF h g) : lyF h g := ⟨p.1, p.2.1, fun a n1 n2 n3 => p.2.2.1 a n1 (by omega) (by omega) (by omega) (by omega) (by omega), fun j hj => p.2.2.2 j (by omega) (by omega) (by omega)⟩
theorem lyF_n (p : ngF h g) : lyF h g := ⟨p.1, p.2.1, fun a n1 n2 n3 => p.2.2.1 a n1 n2 (by omega) (by omega) (by omega) (by omega) (by omega) (by omega) (by omega) (by omega) (by omega) (by omega) (by omega), fun j hj => p.2.2.2 j (by omega) (by omega) (by omega) (by omega) (by omega) (by omega) (by omega)⟩
theorem lyF_k (p : knF h g) : lyF h g := lyF_n (ngF_k p)
theorem lyF_2 {j : Nat} {x : Int32} (o : 20 ≤ j ∧ j ≤ 49) (p : lyF h g) : lyF h (ah_si g 82 j x) := ⟨sh_si p.1, by rw [ah_x_si, p.2.1], fun a n1 n2 n3 => eqc_si (p.2.2.1 a n1 n2 n3) n1, fun i hi => by rw [ah_i_sn (by omega)]; exact p.2.2.2 i hi⟩
/-- all the model's asking rests on -/
def mQs (A : Nat → Nat) (h : ah_T) : Prop := mLw A h ∧ mKn A h ∧ mTw A h ∧ mSw A h
theorem mBa_2 {j : Nat} {x : Int32} (o : j ≠ 1 ∧ j ≠ 29 ∧ j ≠ 41 ∧ j ≠ 42 ∧ j ≠ 43) (b : mBa A N g) : mBa A N (ah_si g 82 j x) := by
  obtain ⟨b1, b2, b3, b4, b5⟩ := b
  refine ⟨mLw_fr (fun i => ah_i_sn (by omega)) b1, ⟨?_, ?_⟩, mND_fr (fun c hc i => ah_i_sn (by omega)) (fun i hi => ah_i_sn (by omega)) b3, mSw_fr (fun i => ah_i_sn (by omega)) b4, b5⟩
  · unfold kvO
    rw [ah_i_sn (by omega), ah_i_sn (by omega)]
    exact b2.1
  intro e
  rw [ah_i_sn (by omega), ah_i_sn (by omega)] at e
  obtain ⟨k1, k2, k3⟩ := b2.2 e
  refine ⟨fun l k o' ne la mi z1 z2 z3 z4 z5 z6 => ?_, fun l k mi z1 z2 z3 => ?_, fun l k mi z1 z2 z3 => ?_⟩
  · rw [ah_i_sn (by omega)]; exact k1 l k o' ne la mi z1 z2 z3 z4 z5 z6
  · rw [ah_i_sn (by omega)]; exact k2 l k mi z1 z2 z3
  · rw [ah_i_sn (by omega)]; exact k3 l k mi z1 z2 z3
theorem mKn_l (f : lkF h g) (k : mKn A h) : mKn A g := by
  have e : ∀ a, (a = 95 ∨ a = 96 ∨ a = 97) → ∀ j, ah_i g a j = ah_i h a j := fun a ha => (f.2.2.1 a (by omega) (by omega) (by omega) (by omega) (by omega) (by omega)).1
  refine ⟨?_, ?_⟩
  · unfold kvO
    rw [f.2.2.2 29 (by decide) (by decide) (by decide), f.2.2.2 1 (by decide) (by decide) (by decide)]
    exact k.1
  intro q
  rw [f.2.2.2 29 (by decide) (by decide) (by decide), f.2.2.2 1 (by decide) (by decide) (by decide)] at q
  obtain ⟨k1, k2, k3⟩ := k.2 q
  refine ⟨fun l k o' ne la mi z1 z2 z3 z4 z5 z6 => ?_, fun l k mi z1 z2 z3 => ?_, fun l k mi z1 z2 z3 => ?_⟩
  · rw [e 95 (by omega)]; exact k1 l k o' ne la mi z1 z2 z3 z4 z5 z6
  · rw [e 96 (by omega)]; exact k2 l k mi z1 z2 z3
  · rw [e 97 (by omega)]; exact k3 l k mi z1 z2 z3
theorem mBa_l (f : lkF h g) (d : mND A N g) (hn : A 246 ≤ N.n) (q : mQs A h) : mBa A N g := by
  have e84 := (f.2.2.1 84 (by decide) (by decide) (by decide) (by decide) (by decide) (by decide)).1
  exact ⟨mLw_fr e84 q.1, mKn_l f q.2.1, d, mSw_fr e84 q.2.2.2, hn⟩
theorem mQ_b (f : lyF h g) (b : mBa A N g) (q : mQs A h) : mQs A g := ⟨b.1, b.2.1, mTw_fr (f.2.2.1 84 (by decide) (by decide) (by decide)).1 q.2.2.1, b.2.2.2.1⟩
theorem m_laysNight {Q : Option Value → ah_T → Prop} (hs : Sh h) (q : mQs A h) (k : mNg A h) (hq : ∀ g, lyF h g → mBa A (nd0 A) g → mNt A (nd0 A) 120 g → ah_i g 82 49 = ah_i g 82 1 → Q none g) : Mt mX12_laysNight [.ref 82] h Q := by
  refine T_X12_laysNight hs (m_looks hs q.2.2.1 (fun g1 f1 d1 => ⟨rfl, f1.1, ?_⟩))
  have b1 : mBa A (nd0 A) g1 := mBa_l f1 d1 (Nat.le_refl _) q
  refine ⟨fun _ => ?_, fun z => ?_⟩
  · refine m_nights f1.1 b1 (by show A 246 ≤ A 246 + 1; omega) (fun g2 M f2 b2 hM t2 k7 k8 o => ⟨rfl, f2.1, ?_⟩)
    have eM : M = 120 := by
      rcases o with o | o
      · exact o
      · exact absurd rfl o.1
    subst eM
    rintro h8 rfl
    refine hq _ (lyF_2 (by omega) (lyF_t (lyF_l f1) (lyF_n f2))) (mBa_2 (by omega) b2) (mNt_fr (fun a ha j => ah_i_sn (by omega)) t2) ?_
    rw [ah_i_ss, ah_i_sn (by omega)]
  · refine hq g1 (lyF_l f1) b1 ?_ z
    have z' := z
    rw [f1.2.2.2 49 (by decide) (by decide) (by decide), f1.2.2.2 1 (by decide) (by decide) (by decide)] at z'
    exact mNt_fr (fun a ha j => (f1.2.2.1 a (by omega) (by omega) (by omega) (by omega) (by omega) (by omega)).1 j) (k z')
theorem m_tries {Q : Option Value → ah_T → Prop} (hs : Sh h) {x1 : Int32} (b : mBa A N h) (hn : N.n ≤ A 246 + 1) (hq : ∀ g M, lyF h g → mBa A N g → M ≤ 120 → mNt A N M g → ah_i g 82 47 = nI (ct (litM A N) N.n M) → ah_i g 82 48 = nI (ct (outM A N) N.n M) → (M = 120 ∨ (¬ x1 = 0 ∧ 0 < ct (outM A N) N.n M)) → ah_i g 82 49 = -1 → (∀ j, 50 ≤ j → ah_i g 82 j = ah_i h 82 j) → Q none g) : Mt mX12_tries [.ref 82, .int x1] h Q := by
  refine T_X12_tries hs _ ?_
  rintro h1 rfl
  refine m_nights (sh_si hs) (mBa_2 (by omega) b) hn (fun g M f bg hM t k7 k8 o => ⟨rfl, f.1, hq g M (lyF_t (lyF_2 (by omega) (lyF_r hs)) (lyF_n f)) bg hM t k7 k8 o ?_ (fun j hj => ?_)⟩)
  · rw [f.2.2.2 49 (by decide) (by decide) (by decide) (by decide) (by decide) (by decide) (by decide), ah_i_ss]
  · rw [f.2.2.2 j (by omega) (by omega) (by omega) (by omega) (by omega) (by omega) (by omega), ah_i_sn (by omega)]
end MN
