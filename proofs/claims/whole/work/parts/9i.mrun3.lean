/-! ===== the model runs a clause ===== -/
/-- why it can't be, as both sides say it -/
def wyR (v c : Int32) : Prop := (c = 0 ∧ v = 0) ∨ (c = -5 ∧ v = -5) ∨ (c = -3 ∧ v < 0 ∧ v ≠ -5)
theorem small_in {v : Int64} {y : Int} (e : v.toInt = y) : (0 ≤ y ∧ y ≤ 1000000 → f_X12_small v = nI y.toNat) ∧ (¬ (0 ≤ y ∧ y ≤ 1000000) → f_X12_small v = -1) := by
  have k1 : (lg_cmp v (0 : Int64) < 0) ↔ y < 0 := by rw [lg_cmp_lt, Int64.lt_iff_toInt_lt, e]; exact Iff.rfl
  have k2 : (0 < lg_cmp v (1000000 : Int64)) ↔ 1000000 < y := by rw [lg_cmp_gt, Int64.lt_iff_toInt_lt, e]; exact Iff.rfl
  have k3 : (lg_cmp v (1000000 : Int64) ≤ 0) ↔ y ≤ 1000000 := by rw [lg_cmp_le, Int64.le_iff_toInt_le, e]; exact Iff.rfl
  have k4 : (0 ≤ lg_cmp v (0 : Int64)) ↔ 0 ≤ y := by rw [lg_cmp_ge, Int64.le_iff_toInt_le, e]; exact Iff.rfl
  have t : 0 ≤ y ∧ y ≤ 1000000 → v.toInt32 = nI y.toNat := fun ⟨h1, h2⟩ => by
    have := i32_of (x := v) (by omega) (by omega)
    exact Int32.toInt_inj.mp (by rw [this, e, nI_toInt (by omega)]; omega)
  unfold f_X12_small
  refine ⟨fun h => ?_, fun h => ?_⟩
  · have := t h
    grind
  · grind
section MR
variable {cs vs : Nat → Nat} {n b : Nat} {w0 : Nat → Int} {h0 h : ah_T}
/-- the model's cells while it runs rounds -/
def mRr (b0 : Nat) (A0 : Nat → Nat) (h0 h : ah_T) (A : Nat → Nat) : Prop :=
  (Sh h ∧ ah_x h = ah_x h0 ∧ (∀ a, a ≠ 82 → a ≠ 84 → a ≠ 94 → a ≠ 121 → eqc h0 h a) ∧ (∀ j, (j < 20 ∨ j = 29 ∨ j = 49 ∨ (60 ≤ j ∧ j ≠ 67 ∧ j ≠ 68 ∧ j ≠ 69 ∧ j ≠ 70 ∧ j ≠ 71 ∧ j ≠ 72 ∧ j ≠ 73 ∧ j ≠ 74)) → ah_i h 82 j = ah_i h0 82 j)) ∧
  (∀ j, (j < 90 ∨ 162 ≤ j) → j ≠ 247 → ah_i h 84 j = ah_i h0 84 j) ∧ m6 A h ∧ xt A0 A ∧ ah_i h 82 70 = nI (A 247 - b0) ∧ (ah_i h 82 71).toInt = (if A 247 = b0 then -1 else (A (90 + (3 * (A 247 - 1) + 1)) : Int))
theorem mRr_ga {h1 : ah_T} {b0 : Nat} {A0 A : Nat → Nat} (m : mRr b0 A0 h0 h A) (g : gaF h h1) : mRr b0 A0 h0 h1 A := by
  obtain ⟨⟨m1, m2, m3, m4⟩, m5, m6, m7, m8, m9⟩ := m
  obtain ⟨g1, g2, g3, g4⟩ := g
  have e84 := (g3 84 (by decide) (by decide) (by decide)).1
  refine ⟨⟨g1, by rw [g2, m2], fun a n1 n2 n3 n4 => eqc_trans (m3 a n1 n2 n3 n4) (g3 a n1 n3 n4), fun j hj => by rw [g4 j (by omega) (by omega) (by omega) (by omega) (by omega) (by omega), m4 j hj]⟩, fun j h1 h2 => by rw [e84]; exact m5 j h1 h2, ?_, m7, by rw [g4 70 (by omega) (by omega) (by omega) (by omega) (by omega) (by omega)]; exact m8, by rw [g4 71 (by omega) (by omega) (by omega) (by omega) (by omega) (by omega)]; exact m9⟩
  obtain ⟨p1, p2, p3, p4, p5⟩ := m6
  exact ⟨by rw [e84]; exact p1, p2, by rw [e84]; exact p3, p4, fun j hj => by rw [e84]; exact p5 j hj⟩
theorem m_runs {Q : Option Value → ah_T → Prop} {A0 A : Nat → Nat} {b0 i lv : Nat} {x : Int32} (m : mRr b0 A0 h0 h A) (hb : b0 ≤ A0 247) (hw0 : ∀ j, j < 13 → -1000000000 ≤ w0 j ∧ w0 j ≤ 1000000000) (hT : ah_i h0 84 242 = nI (A0 242))
    (g1 : n ≤ 400) (g2 : cs n = 0) (g3 : b + n ≤ 2800) (g4 : ∀ k, k < n → ah_i h0 84 (260 + (b + k)) = nI (cs k) ∧ ah_i h0 84 (3060 + (b + k)) = nI (vs k)) (g5 : ∀ k, k ≤ n → cs k < 400 ∧ vs k < 2 ^ 31)
    (hi : i ≤ n) (hl : lv ≤ 50) (hp : (pRnd cs vs isR i lv).1 = true) (e67 : ah_i h 82 67 = nI (b + i)) (ex : x = nI (b + n))
    (hq : ∀ h' v, mRr b0 A0 h0 h' (crun (pRnd cs vs isR i lv).2.2.2 w0 b0 (pRnd cs vs isR i lv).2.2.2.2.2.2.2.1 0 A).2 → wyR v (crun (pRnd cs vs isR i lv).2.2.2 w0 b0 (pRnd cs vs isR i lv).2.2.2.2.2.2.2.1 0 A).1 → (v = 0 → ah_i h' 82 67 = nI (b + ((pRnd cs vs isR i lv).2.1 + 1))) → Q (some (.int v)) h') : Mt mX12_runs [.ref 82, .int x] h Q := by
  subst ex
  have cr := pRnd_R hp
  have er : ∀ {A : Nat → Nat} {r : Nat} {g : ah_T}, mRr b0 A0 h0 g A → r ≤ 20 → gaS cs vs n b (wR w0 A b0 r) g A r := by
    intro A r g m hr
    obtain ⟨⟨m1, m2, m3, m4⟩, m5, ⟨p1, p2, p3, p4, p5⟩, m7, m8, m9⟩ := m
    have wf := m7.1
    have h9 := wf.2.2.2.2.2.2.1.1
    have hb2 : b0 ≤ A 247 := by have := m7.2.1; omega
    refine ⟨g1, g2, g3, fun k hk => by rw [m5 _ (by omega) (by omega), m5 _ (by omega) (by omega)]; exact g4 k hk, g5, fun k hk => wR_in wf hw0 hb2 hr k hk, ?_, p1, p3, ?_, ?_, ?_, ?_, ?_, ?_⟩
    · rw [m5 242 (by omega) (by omega), hT, m7.2.2.2 242 (by omega) (by omega)]
    · rw [nI_toInt (by omega)]; rfl
    · rw [nI_toInt (by omega)]; rfl
    · rw [nI_toInt (by omega)]; rfl
    · rw [m9]; rfl
    · rw [m8, nI_toInt (by omega)]; rfl
    · rw [nI_toInt (by omega)]; rfl
  have n67 : ∀ {g g' : ah_T}, gaF g g' → ah_i g' 82 67 = ah_i g 82 67 := fun f => f.2.2.2 67 (by omega) (by omega) (by omega) (by omega) (by omega) (by omega)
  generalize hR : pRnd cs vs isR i lv = R at *
  obtain ⟨c1, c2, c3, c4, c5⟩ := cr
  refine T_X12_runs m.1.1 _ (m_goesAlong (r := 0) (live := false) m.1.1 (er m (by omega)) hi hl (by rw [hR]; exact hp) e67 rfl rfl rfl (fun u fu u20 u68 u69 _ => ⟨rfl, fu.1, ?_⟩))
  rw [hR] at u20 u68 u69
  rw [u68, u20]
  have lp : ∀ (q tm r : Nat) (A : Nat → Nat) (g : ah_T), tm + q = R.2.2.2.2.2.2.2.1 → r ≤ tm → mRr b0 A0 h0 g A → ah_i g 82 67 = nI (b + i) → (∀ h' v, mRr b0 A0 h0 h' (crun R.2.2.2 w0 b0 q r A).2 → wyR v (crun R.2.2.2 w0 b0 q r A).1 → (v = 0 → ah_i h' 82 67 = nI (b + (R.2.1 + 1))) → Q (some (.int v)) h') → Wp mX12_runs Q 0 0 23 [some (.ref 82), some (.int (nI (b + n))), some (.int (nI R.2.2.2.2.2.2.2.1)), some (.int (nI (b + (R.2.1 + 1)))), some (.int (nI r)), some (.int (nI tm)), none, none] [] g := by
    intro q
    induction q with
    | zero =>
      intro tm r A g hg hr mg e67 hq
      refine T_X12_runs_23 mg.1.1 _ _ _ _ _ ?_
      (first | refine ⟨fun _ => ?_, fun n_ => absurd (show nI R.2.2.2.2.2.2.2.1 ≤ nI tm from nI_le (by omega) (by omega)) n_⟩ | refine ⟨fun n_ => absurd (show nI R.2.2.2.2.2.2.2.1 ≤ nI tm from nI_le (by omega) (by omega)) n_, fun _ => ?_⟩ | refine ⟨fun y_ => absurd y_ (show nI R.2.2.2.2.2.2.2.1 ≤ nI tm from nI_le (by omega) (by omega)), fun _ => ?_⟩ | refine ⟨fun _ => ?_, fun y_ => absurd y_ (show nI R.2.2.2.2.2.2.2.1 ≤ nI tm from nI_le (by omega) (by omega))⟩)
      rintro h5 rfl
      refine hq _ 0 ?_ (.inl ⟨rfl, rfl⟩) (fun _ => ah_i_ss)
      obtain ⟨⟨m1, m2, m3, m4⟩, m5, ⟨p1, p2, p3, p4, p5⟩, m7, m8, m9⟩ := mg
      exact ⟨⟨sh_si m1, by rw [ah_x_si, m2], fun a n1 n2 n3 n4 => eqc_si (m3 a n1 n2 n3 n4) n1, fun j hj => by rw [ah_i_sn (by omega)]; exact m4 j hj⟩, fun j a1 a2 => by rw [ah_i_sn (by omega)]; exact m5 j a1 a2, ⟨by rw [ah_i_sn (by omega)]; exact p1, p2, by rw [ah_i_sn (by omega)]; exact p3, p4, fun j hj => by rw [ah_i_sn (by omega)]; exact p5 j hj⟩, m7, by rw [ah_i_sn (by omega)]; exact m8, by rw [ah_i_sn (by omega)]; exact m9⟩
    | succ q ih =>
      intro tm r A g hg hr mg e67 hq
      refine T_X12_runs_23 mg.1.1 _ _ _ _ _ ?_
      (first | refine ⟨fun _ => ?_, fun n_ => absurd (show ¬ nI R.2.2.2.2.2.2.2.1 ≤ nI tm from nI_ge (by omega) (by omega)) n_⟩ | refine ⟨fun n_ => absurd (show ¬ nI R.2.2.2.2.2.2.2.1 ≤ nI tm from nI_ge (by omega) (by omega)) n_, fun _ => ?_⟩ | refine ⟨fun y_ => absurd y_ (show ¬ nI R.2.2.2.2.2.2.2.1 ≤ nI tm from nI_ge (by omega) (by omega)), fun _ => ?_⟩ | refine ⟨fun _ => ?_, fun y_ => absurd y_ (show ¬ nI R.2.2.2.2.2.2.2.1 ≤ nI tm from nI_ge (by omega) (by omega))⟩)
      refine m_goesAlong (live := true) mg.1.1 (er mg (by omega)) hi hl (by rw [hR]; exact hp) e67 rfl rfl rfl (fun v fv v20 v68 v69 vl => ⟨rfl, fv.1, ?_⟩)
      rw [hR] at v69 vl
      obtain ⟨l1, l2, l3, l4, l5⟩ := vl rfl
      have mv := mRr_ga mg fv
      have v67 : ah_i v 82 67 = nI (b + i) := by rw [n67 fv]; exact e67
      have wf := mv.2.2.2.1.1
      have h10 := wf.2.1.1
      have h24 := wf.2.2.1.1
      have hb2 : b0 ≤ A 247 := by have := mv.2.2.2.1.2.1; omega
      by_cases hps : pass R.2.2.2 (wR w0 A b0 r) = true
      · (first | refine ⟨fun _ => ?_, fun n_ => absurd (show ¬ ah_i v 82 73 = 0 from fun z => (l1.mp z) hps) n_⟩ | refine ⟨fun n_ => absurd (show ¬ ah_i v 82 73 = 0 from fun z => (l1.mp z) hps) n_, fun _ => ?_⟩ | refine ⟨fun y_ => absurd y_ (show ¬ ah_i v 82 73 = 0 from fun z => (l1.mp z) hps), fun _ => ?_⟩ | refine ⟨fun _ => ?_, fun y_ => absurd y_ (show ¬ ah_i v 82 73 = 0 from fun z => (l1.mp z) hps)⟩)
        have e : crun R.2.2.2 w0 b0 (q + 1) r A = if (once R.2.2.2 (wR w0 A b0 r) r A).1 = 0 then crun R.2.2.2 w0 b0 q (r + 1) (once R.2.2.2 (wR w0 A b0 r) r A).2 else once R.2.2.2 (wR w0 A b0 r) r A := by
          rw [crun, if_pos hps]
        rw [e] at hq
        by_cases c0 : ah_i v 82 72 = 0
        · (first | refine ⟨fun _ => ?_, fun n_ => absurd (c0) n_⟩ | refine ⟨fun n_ => absurd (c0) n_, fun _ => ?_⟩ | refine ⟨fun y_ => absurd y_ (c0), fun _ => ?_⟩ | refine ⟨fun _ => ?_, fun y_ => absurd y_ (c0)⟩)
          have eo : once R.2.2.2 (wR w0 A b0 r) r A = (-3, A) := by
            unfold once
            rcases l2.mp c0 with z | z | z
            · rw [z]
            · rw [z]; cases ev1 R.2.2.2.2.1 (wR w0 A b0 r) <;> rfl
            · rw [z]; cases ev1 R.2.2.2.2.1 (wR w0 A b0 r) <;> cases ev1 R.2.2.2.2.2.1 (wR w0 A b0 r) <;> rfl
          rw [eo, if_neg (show ¬ ((-3 : Int32)) = 0 by decide)] at hq
          exact hq v (-3) mv (.inr (.inr ⟨rfl, by decide, by decide⟩)) (fun z => absurd z (by decide))
        · (first | refine ⟨fun _ => ?_, fun n_ => absurd (c0) n_⟩ | refine ⟨fun n_ => absurd (c0) n_, fun _ => ?_⟩ | refine ⟨fun y_ => absurd y_ (c0), fun _ => ?_⟩ | refine ⟨fun _ => ?_, fun y_ => absurd y_ (c0)⟩)
          have c0' : ¬ _ := fun z => c0 (l2.mpr z)
          obtain ⟨L, eL⟩ : ∃ L, ev1 R.2.2.2.2.1 (wR w0 A b0 r) = some L := by
            cases z : ev1 R.2.2.2.2.1 (wR w0 A b0 r) with
            | none => exact absurd (.inl z) c0'
            | some y => exact ⟨y, rfl⟩
          obtain ⟨T, eT⟩ : ∃ T, ev1 R.2.2.2.2.2.1 (wR w0 A b0 r) = some T := by
            cases z : ev1 R.2.2.2.2.2.1 (wR w0 A b0 r) with
            | none => exact absurd (.inr (.inl z)) c0'
            | some y => exact ⟨y, rfl⟩
          obtain ⟨E, eE⟩ : ∃ E, ev1 R.2.2.2.2.2.2.1 (wR w0 A b0 r) = some E := by
            cases z : ev1 R.2.2.2.2.2.2.1 (wR w0 A b0 r) with
            | none => exact absurd (.inr (.inr z)) c0'
            | some y => exact ⟨y, rfl⟩
          obtain ⟨L1, L2, L3⟩ := l3 L eL
          obtain ⟨T1, T2, T3⟩ := l4 T eT
          obtain ⟨E1, E2, E3⟩ := l5 E eE
          have eo : once R.2.2.2 (wR w0 A b0 r) r A = (rwy L (T + E * r) A, rA1 L (T + E * r) (if R.2.2.2.1 = 3 then 1 else 0) A) := by
            unfold once
            rw [eL, eT, eE]
          rw [eo] at hq
          dsimp only at hq
          have z0 : Int32.toNatClampNeg 0 = 0 := rfl
          have z1 : Int32.toNatClampNeg 1 = 1 := rfl
          have z2 : Int32.toNatClampNeg 2 = 2 := rfl
          rw [z0, z1, z2]
          obtain ⟨mm, emm⟩ : ∃ mm, mm = T + E * (r : Int) := ⟨_, rfl⟩
          have bm1 : -1000000000 * 20 ≤ E * (r : Int) := by
            have h1 : -1000000000 * (r : Int) ≤ E * (r : Int) := Int.mul_le_mul_of_nonneg_right E2 (by omega)
            omega
          have bm2 : E * (r : Int) ≤ 1000000000 * 20 := by
            have h1 : E * (r : Int) ≤ 1000000000 * (r : Int) := Int.mul_le_mul_of_nonneg_right E3 (by omega)
            omega
          have r9 : ((nI r).toInt64).toInt = r := by rw [Int32.toInt_toInt64, nI_toInt (by omega)]
          have eM : (ah_l v 121 1 + ah_l v 121 2 * (nI r).toInt64).toInt = mm := by
            have m0 : (ah_l v 121 2 * (nI r).toInt64).toInt = E * (r : Int) := by
              rw [Int64.toInt_mul, E1, r9]
              exact bmod64 (by omega) (by omega)
            rw [l_add (by omega) (by omega) (by rw [m0]; omega) (by rw [m0]; omega), m0, T1, emm]
          rw [← emm] at hq
          have sM := small_in eM
          have sL := small_in L1
          generalize f_X12_small (ah_l v 121 1 + ah_l v 121 2 * (nI r).toInt64) = x2 at sM ⊢
          generalize f_X12_small (ah_l v 121 0) = x1 at sL ⊢
          have tell : ∀ on : Nat, on < 2 → on = (if R.2.2.2.1 = 3 then 1 else 0) → Mt mX12_tellsSwitch [.ref 82, .int x1, .int x2, .int (nI on)] v (ab_qi fun v16 h14 => Sh h14 ∧ ((0 ≤ v16 → (∀ h18, h18 = ah_si h14 82 70 ((ah_i h14 82 70) + 1) → (∀ h21, h21 = ah_si h18 82 71 x2 → Wp mX12_runs Q 0 0 23 [some (.ref 82), some (.int (nI (b + n))), some (.int (nI R.2.2.2.2.2.2.2.1)), some (.int (nI (b + (R.2.1 + 1)))), some (.int (nI r + 1)), some (.int (nI tm + 1)), none, none] [] h21))) ∧ (¬ 0 ≤ v16 → Q (some (.int v16)) h14))) := by
            intro on hon eon
            rw [← eon] at hq
            refine m_tell6 mv.1.1 mv.2.2.1 _ _ _ (fun y y1 y2 y3 y4 y5 => ⟨_, rfl, y1, ?_⟩)
            obtain ⟨⟨m1, m2, m3, m4⟩, m5, m6', m7, m8, m9⟩ := mv
            have y82 := (y4 82 (by decide)).1
            have base : ∀ {A'' : Nat → Nat}, m6 A'' y → A'' = A → mRr b0 A0 h0 y A := by
              intro A'' hm eA
              subst eA
              exact ⟨⟨y1, by rw [y2, m2], fun a n1 n2 n3 n4 => eqc_trans (m3 a n1 n2 n3 n4) (y4 a n2), fun j hj => by rw [y82]; exact m4 j hj⟩, fun j a1 a2 => by rw [y5 j a1 a2]; exact m5 j a1 a2, hm, m7, by rw [y82]; exact m8, by rw [y82]; exact m9⟩
            by_cases cm : 0 ≤ mm ∧ mm < 120
            · obtain ⟨k, ek⟩ : ∃ k : Nat, mm = k := ⟨mm.toNat, by omega⟩
              have ex2 : x2 = nI k := by rw [sM.1 (by omega), ek]; rfl
              subst ex2
              rw [ek] at hq
              obtain ⟨l', el', hl1, hl2⟩ : ∃ l' : Int, x1.toInt = l' ∧ rwy l' k A = rwy L k A ∧ rA1 l' k on A = rA1 L k on A := by
                by_cases cl : 0 ≤ L ∧ L ≤ 1000000
                · refine ⟨L, ?_, rfl, rfl⟩
                  rw [sL.1 cl, nI_toInt (by omega)]
                  omega
                · refine ⟨-1, by rw [sL.2 cl]; rfl, ?_, ?_⟩
                  all_goals
                    have q1 : rwy (-1) k A = -3 := by unfold rwy; rw [if_neg (by omega), if_pos (by omega)]
                    have q2 : rwy L k A = -3 := by unfold rwy; rw [if_neg (by omega), if_pos (by omega)]
                  · rw [q1, q2]
                  · unfold rA1; rw [if_neg (by rw [q1]; decide), if_neg (by rw [q2]; decide)]
              have tr := tw_rw h10 h24 (A := A) (x1 := x1) el' (m := k) (on := on) (by omega) hon
              rw [hl1, hl2] at tr
              rcases tr with ⟨u1, u2, u3⟩ | ⟨u1, u2, u3, u4⟩ | ⟨u1, u2, u3, u4⟩
              · rw [u1]
                (first | refine ⟨fun _ => ?_, fun n_ => absurd (show (0 : Int32) ≤ 0 by decide) n_⟩ | refine ⟨fun n_ => absurd (show (0 : Int32) ≤ 0 by decide) n_, fun _ => ?_⟩ | refine ⟨fun y_ => absurd y_ (show (0 : Int32) ≤ 0 by decide), fun _ => ?_⟩ | refine ⟨fun _ => ?_, fun y_ => absurd y_ (show (0 : Int32) ≤ 0 by decide)⟩)
                rintro h18 rfl h21 rfl
                rw [u2, if_pos rfl] at hq
                rw [u3] at y3
                rw [nI_1, nI_1]
                have lk : L.toNat < A 246 ∧ A 247 < 24 ∧ 0 ≤ L := by
                  unfold rwy at u2
                  rw [if_neg (by omega)] at u2
                  by_cases z1 : L < 0 ∨ (A 246 : Int) ≤ L
                  · rw [if_pos z1] at u2; exact absurd u2 (by decide)
                  · rw [if_neg z1] at u2
                    by_cases z2 : A 247 = 24
                    · rw [if_pos z2] at u2; exact absurd u2 (by decide)
                    · omega
                have eA : rA1 L k on A = up4 A 90 247 L.toNat k on := by
                  unfold rA1
                  rw [if_pos u2]
                  rfl
                have a247 : rA1 L k on A 247 = A 247 + 1 := by rw [eA, up4_m]
                have aL : rA1 L k on A (90 + (3 * (rA1 L k on A 247 - 1) + 1)) = k := by
                  rw [a247, eA]
                  exact up4_2 (x := L.toNat) (y := k) (z := on) (by omega)
                refine ih (tm + 1) (r + 1) _ _ (by omega) (by omega) ⟨⟨sh_si (sh_si y1), by rw [ah_x_si, ah_x_si, y2, m2], fun a n1 n2 n3 n4 => eqc_si (eqc_si (eqc_trans (m3 a n1 n2 n3 n4) (y4 a n2)) n1) n1, fun j hj => by rw [ah_i_sn (by omega), ah_i_sn (by omega), y82]; exact m4 j hj⟩, fun j a1 a2 => by rw [ah_i_sn (by omega), ah_i_sn (by omega), y5 j a1 a2]; exact m5 j a1 a2, ?_, xt_t m7 (xt_1 wf L k on hon), ?_, ?_⟩ (by rw [ah_i_sn (by omega), ah_i_sn (by omega), y82]; exact v67) hq
                · obtain ⟨p1, p2, p3, p4, p5⟩ := y3
                  exact ⟨by rw [ah_i_sn (by omega), ah_i_sn (by omega)]; exact p1, p2, by rw [ah_i_sn (by omega), ah_i_sn (by omega)]; exact p3, p4, fun j hj => by rw [ah_i_sn (by omega), ah_i_sn (by omega)]; exact p5 j hj⟩
                · rw [ah_i_sn (by omega), ah_i_ss, y82, m8, nI_1, a247]
                  exact congrArg nI (by omega)
                · rw [ah_i_ss, if_neg (by rw [a247]; omega), aL, nI_toInt (by omega)]
              · rw [u1]
                (first | refine ⟨fun _ => ?_, fun n_ => absurd (show ¬ (0 : Int32) ≤ -5 by decide) n_⟩ | refine ⟨fun n_ => absurd (show ¬ (0 : Int32) ≤ -5 by decide) n_, fun _ => ?_⟩ | refine ⟨fun y_ => absurd y_ (show ¬ (0 : Int32) ≤ -5 by decide), fun _ => ?_⟩ | refine ⟨fun _ => ?_, fun y_ => absurd y_ (show ¬ (0 : Int32) ≤ -5 by decide)⟩)
                rw [u2, if_neg (by decide), u4] at hq
                exact hq y (-5) (base y3 u3) (.inr (.inl ⟨rfl, rfl⟩)) (fun z => absurd z (by decide))
              · rw [u1]
                (first | refine ⟨fun _ => ?_, fun n_ => absurd (show ¬ (0 : Int32) ≤ -2 by decide) n_⟩ | refine ⟨fun n_ => absurd (show ¬ (0 : Int32) ≤ -2 by decide) n_, fun _ => ?_⟩ | refine ⟨fun y_ => absurd y_ (show ¬ (0 : Int32) ≤ -2 by decide), fun _ => ?_⟩ | refine ⟨fun _ => ?_, fun y_ => absurd y_ (show ¬ (0 : Int32) ≤ -2 by decide)⟩)
                rw [u2, if_neg (by decide), u4] at hq
                exact hq y (-2) (base y3 u3) (.inr (.inr ⟨rfl, by decide, by decide⟩)) (fun z => absurd z (by decide))
            · have i0 : f_X11_isIn x2 120 = 0 := by
                by_cases c5 : 0 ≤ mm ∧ mm ≤ 1000000
                · rw [sM.1 c5]
                  by_cases z : f_X11_isIn (nI mm.toNat) 120 = 0
                  · exact z
                  · obtain ⟨j, hj, ej⟩ := q_isn (n := 120) (by decide) z
                    have := (nI_eq (by omega) (by omega)).mp ej
                    omega
                · rw [sM.2 c5]; decide
              have t1 := tw_1 (A := A) (x1 := x1) (x2 := x2) (x3 := nI on) (.inl i0)
              have er2 : rwy L mm A = -3 := by unfold rwy; rw [if_pos (by omega)]
              have ea2 : rA1 L mm on A = A := by unfold rA1; rw [if_neg (by rw [er2]; decide)]
              rw [t1]
              (first | refine ⟨fun _ => ?_, fun n_ => absurd (show ¬ (0 : Int32) ≤ -1 by decide) n_⟩ | refine ⟨fun n_ => absurd (show ¬ (0 : Int32) ≤ -1 by decide) n_, fun _ => ?_⟩ | refine ⟨fun y_ => absurd y_ (show ¬ (0 : Int32) ≤ -1 by decide), fun _ => ?_⟩ | refine ⟨fun _ => ?_, fun y_ => absurd y_ (show ¬ (0 : Int32) ≤ -1 by decide)⟩)
              rw [er2, if_neg (by decide), ea2] at hq
              exact hq y (-1) (base y3 (tA_no (by rw [t1]; decide))) (.inr (.inr ⟨rfl, by decide, by decide⟩)) (fun z => absurd z (by decide))
          by_cases v3 : R.2.2.2.1 = 3
          · (first | refine ⟨fun _ => ?_, fun n_ => absurd (v69.mpr v3) n_⟩ | refine ⟨fun n_ => absurd (v69.mpr v3) n_, fun _ => ?_⟩ | refine ⟨fun y_ => absurd y_ (v69.mpr v3), fun _ => ?_⟩ | refine ⟨fun _ => ?_, fun y_ => absurd y_ (v69.mpr v3)⟩)
            exact tell 1 (by omega) (by rw [if_pos v3])
          · (first | refine ⟨fun _ => ?_, fun n_ => absurd (show ¬ ah_i v 82 69 = 21 from fun z => v3 (v69.mp z)) n_⟩ | refine ⟨fun n_ => absurd (show ¬ ah_i v 82 69 = 21 from fun z => v3 (v69.mp z)) n_, fun _ => ?_⟩ | refine ⟨fun y_ => absurd y_ (show ¬ ah_i v 82 69 = 21 from fun z => v3 (v69.mp z)), fun _ => ?_⟩ | refine ⟨fun _ => ?_, fun y_ => absurd y_ (show ¬ ah_i v 82 69 = 21 from fun z => v3 (v69.mp z))⟩)
            exact tell 0 (by omega) (by rw [if_neg v3])
      · (first | refine ⟨fun _ => ?_, fun n_ => absurd (l1.mpr hps) n_⟩ | refine ⟨fun n_ => absurd (l1.mpr hps) n_, fun _ => ?_⟩ | refine ⟨fun y_ => absurd y_ (l1.mpr hps), fun _ => ?_⟩ | refine ⟨fun _ => ?_, fun y_ => absurd y_ (l1.mpr hps)⟩)
        have e : crun R.2.2.2 w0 b0 (q + 1) r A = crun R.2.2.2 w0 b0 q r A := by rw [crun, if_neg hps]
        rw [e] at hq
        rw [nI_1]
        exact ih (tm + 1) r A v (by omega) (by omega) mv v67 hq
  exact lp R.2.2.2.2.2.2.2.1 0 0 A u (by omega) (Nat.le_refl _) (mRr_ga m fu) (by rw [n67 fu]; exact e67) hq
end MR
