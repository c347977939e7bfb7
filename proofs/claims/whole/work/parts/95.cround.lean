/-! ===== the class's reader of rounds' clauses ===== -/
section PH
variable (cs vs : Nat → Nat) (isV : Nat → Bool)
theorem pB_pB {α β γ : Type} (r : pR α) (d : β) (f : α → Nat → Nat → pR β) (d' : γ) (g : β → Nat → Nat → pR γ) : pB (pB r d f) d' g = pB r d' (fun a i l => pB (f a i l) d' g) := by
  unfold pB
  by_cases c : r.1 = true
  · simp only [if_pos c]
  · simp only [if_neg c]
    rfl
/-- a rounds' clause but for its if -/
def pRnH (i lv : Nat) : pR Cl := pB (pVerb cs i lv) cl0 fun v j l => pB (pSum cs vs isV 8 j l) cl0 fun m j l => pB (pTok cs 23 j l) cl0 fun _ j l => pB (pSum cs vs isV 8 j l) cl0 fun a j l => pB (pEach cs vs isV j l) cl0 fun e j l => pMp (fun k => (v, some m, some a, e, k, none)) (pTimes cs vs j l)
def setT (c : Cl) (t : Option Tg) : Cl := (c.1, c.2.1, c.2.2.1, c.2.2.2.1, c.2.2.2.2.1, t)
theorem pRnd_eq (i lv : Nat) : pRnd cs vs isV i lv = pB (pRnH cs vs isV i lv) cl0 fun c j l => pMp (setT c) (pIf cs vs isV j l) := by
  unfold pRnd pRnH
  simp only [pB_pB, pB_pMp]
  rfl
/-- a law's clause but for its if -/
def pLwH (i lv : Nat) : pR Cl := pMp (fun a => (a.1, a.2, none, none, 1, none)) (pHd cs vs isV i lv)
theorem pLaw_eq (i lv : Nat) : pLaw cs vs isV i lv = pB (pLwH cs vs isV i lv) cl0 fun c j l => pMp (setT c) (pIf cs vs isV j l) := by
  unfold pLaw pLwH
  rw [pB_pMp]
  rfl
end PH
section CL
variable {cs vs : Nat → Nat} {isV : Nat → Bool} {n : Nat} {h0 h : ah_T}
theorem pRnH_ok (h0 : cs n = 0) (hV : isV 0 = false) : lvP n (pRnH cs vs isV) :=
  lvP_B (pVerb_ok h0) (fun _ => lvP_B (pSum_ok h0 hV 8).p (fun _ => lvP_B (pTok_ok h0 (by decide)) (fun _ => lvP_B (pSum_ok h0 hV 8).p (fun _ => lvP_B (pEach_ok h0 hV) (fun _ => lvP_mp (pTimes_ok h0))))))
/-- what stands behind the sums of a rounds' clause -/
def rdO (T' : Nat → Int32) (k : Nat) (c : Nat → Nat) (q : Nat) (cl : Cl) : Prop := T' (6 * k) = nI cl.1 ∧ cS1 (T' (6 * k + 1)) c q cl.2.1 ∧ cS1 (T' (6 * k + 2)) c q cl.2.2.1 ∧ cS1 (T' (6 * k + 3)) c q cl.2.2.2.1 ∧ T' (6 * k + 4) = nI cl.2.2.2.2.1
theorem c_readRound {Q : Option Value → ah_T → Prop} {i q lv k : Nat} {c : Nat → Nat} {wd x : Int32} {T U : Nat → Int32} (t : Ck cs vs isV n h0) (r : rS h0 h i q lv c wd T U) (hi : i ≤ n) (hl : lv ≤ 50) (hb : 2 * q ≤ 15 * lv) (hk : k < 12) (ex : x = nI (6 * k)) (hT : ∀ j, 6 * k ≤ j → j < 6 * k + 6 → T j = -1)
    (k1 : (pRnH cs vs isV i lv).1 = true → ∀ h' q' c' wd' T', rS h0 h' (pRnH cs vs isV i lv).2.1 q' (pRnH cs vs isV i lv).2.2.1 c' wd' T' U → 2 * q' ≤ 15 * (pRnH cs vs isV i lv).2.2.1 → gX q c wd q' c' wd' → (∀ j, (j < 6 * k ∨ 6 * k + 5 ≤ j) → T' j = T j) → rdO T' k c' q' (pRnH cs vs isV i lv).2.2.2 → Q (some (.int 1)) h')
    (k0 : (pRnH cs vs isV i lv).1 = false → ∀ h', rFl h0 h' (pRnH cs vs isV i lv).2.1 → Q (some (.int 0)) h') : Mt mX5_readRound [.ref 20, .int x] h Q := by
  subst ex
  have h0n := t.2.1
  have hV := t.2.2.1
  -- times
  have kT : ∀ {h : ah_T} {i q2 lv : Nat} {c2 : Nat → Nat} {wd2 : Int32} {T2 : Nat → Int32}, i ≤ n → lv ≤ 50 → rS h0 h i q2 lv c2 wd2 T2 U →
      ((pTimes cs vs i lv).1 = true → ∀ h' T', rS h0 h' (pTimes cs vs i lv).2.1 q2 (pTimes cs vs i lv).2.2.1 c2 wd2 T' U → (∀ j, j ≠ 6 * k + 4 → T' j = T2 j) → T' (6 * k + 4) = nI (pTimes cs vs i lv).2.2.2 → Q (some (.int 1)) h') →
      ((pTimes cs vs i lv).1 = false → ∀ h', rFl h0 h' (pTimes cs vs i lv).2.1 → Q (some (.int 0)) h') →
      (vp_in (nI (6 * k) + 4) (ah_n h 24)) ∧ (∀ h14, h14 = ah_si h 24 (Int32.toNatClampNeg (nI (6 * k) + 4)) 1 → (vp_in (ah_i h14 20 6) (ah_n h14 21)) ∧ ((¬ (ah_i h14 21 (Int32.toNatClampNeg (ah_i h14 20 6))) = 20 → Q (some (.int 1)) h14) ∧ ((ah_i h14 21 (Int32.toNatClampNeg (ah_i h14 20 6))) = 20 → (∀ h19, h19 = ah_si h14 20 6 ((ah_i h14 20 6) + 1) → (vp_in (ah_i h19 20 6) (ah_n h19 21)) ∧ (((ah_i h19 21 (Int32.toNatClampNeg (ah_i h19 20 6))) ≤ 1000 → Q (some (.int 0)) h19) ∧ (¬ (ah_i h19 21 (Int32.toNatClampNeg (ah_i h19 20 6))) ≤ 1000 → (vp_in (ah_i h19 20 6) (ah_n h19 21)) ∧ (((ah_i h19 21 (Int32.toNatClampNeg (ah_i h19 20 6))) ≤ 1020 → (vp_in (ah_i h19 20 6) (ah_n h19 21)) ∧ (vp_in (nI (6 * k) + 4) (ah_n h19 24)) ∧ (∀ h28, h28 = ah_si h19 24 (Int32.toNatClampNeg (nI (6 * k) + 4)) ((ah_i h19 21 (Int32.toNatClampNeg (ah_i h19 20 6))) - 1000) → (∀ h31, h31 = ah_si h28 20 6 ((ah_i h28 20 6) + 1) → Q (some (.int 1)) h31))) ∧ (¬ (ah_i h19 21 (Int32.toNatClampNeg (ah_i h19 20 6))) ≤ 1020 → Q (some (.int 0)) h19)))))))) := by
    intro h i q2 lv c2 wd2 T2 hi hl r k1 k0
    rw [show nI (6 * k) + 4 = nI (6 * k + 4) from nI_add _ 4, nI_clamp (show 6 * k + 4 < 2 ^ 31 by omega), n24 r.1.1]
    refine ⟨(vp_nI (by omega)).mpr (by omega), ?_⟩
    rintro h14 rfl
    have r1 := rS_24 (j := 6 * k + 4) (x := 1) r
    obtain ⟨v1, e1⟩ := rS_tk t r1 hi
    rw [e1]
    refine ⟨v1, fun z => ?_, fun z => ?_⟩
    · have c5 : cs i ≠ 25 := fun y => z ((wd_tk t hi (by decide) (by decide) rfl).mpr y)
      have hd : pTimes cs vs i lv = (true, i, lv, 1) := by unfold pTimes; rw [if_neg c5]
      rw [hd] at k1
      exact k1 rfl _ _ r1 (fun j hj => up32_n hj) (up32_s _ _ _)
    · have c5 : cs i = 25 := (wd_tk t hi (by decide) (by decide) rfl).mp z
      have hin : i + 1 ≤ n := lt_n h0n hi (by omega)
      rintro h19 rfl
      have r2 := rS_at r1
      obtain ⟨v2, e2⟩ := rS_tk t r2 hin
      rw [e2, n24 r2.1.1]
      have tl := tkA_le t hin
      have hA : cs (i + 1) = 50 → tkA cs vs n (i + 1) = 1000 + min (vs (i + 1)) 1001 := by
        intro y
        have := lt_n h0n hin (by omega)
        unfold tkA tkO
        rw [if_pos this, if_pos y]
      have hB : 1000 < tkA cs vs n (i + 1) ∧ tkA cs vs n (i + 1) ≤ 1020 ↔ cs (i + 1) = 50 ∧ 1 ≤ vs (i + 1) ∧ vs (i + 1) ≤ 20 := by
        have hn := tkA_num t hin
        constructor
        · intro y
          have y2 := hn.mp ⟨by omega, by omega⟩
          have := hA y2.1
          exact ⟨y2.1, by omega, by omega⟩
        · intro y
          have := hA y.1
          omega
      have bad : ¬ (cs (i + 1) = 50 ∧ 1 ≤ vs (i + 1) ∧ vs (i + 1) ≤ 20) → Q (some (.int 0)) (ah_si (ah_si h 24 (6 * k + 4) 1) 20 6 (ah_i (ah_si h 24 (6 * k + 4) 1) 20 6 + 1)) := by
        intro y
        have hd : pTimes cs vs i lv = pFail (i + 1) lv 1 := by unfold pTimes; rw [if_pos c5, if_neg y]
        rw [hd] at k0
        exact k0 rfl _ ⟨r2.1, r2.2.1⟩
      generalize tkA cs vs n (i + 1) = a at *
      have l0 : (nI a ≤ 1000) ↔ a ≤ 1000 := nI_leI (b := 1000) (by omega) (by decide)
      have l2 : (nI a ≤ 1020) ↔ a ≤ 1020 := nI_leI (b := 1020) (by omega) (by decide)
      refine ⟨v2, fun z2 => bad (fun y => ?_), fun z2 => ⟨v2, fun z3 => ⟨v2, (vp_nI (by omega)).mpr (by omega), ?_⟩, fun z3 => bad (fun y => ?_)⟩⟩
      · have := hB.mpr y
        have := l0.mp z2
        omega
      · have y := hB.mp ⟨by
          rcases Nat.lt_or_ge 1000 a with w | w
          · exact w
          · exact absurd (l0.mpr w) z2, l2.mp z3⟩
        have hd : pTimes cs vs i lv = (true, i + 2, lv, vs (i + 1)) := by unfold pTimes; rw [if_pos c5, if_pos y]
        rw [hd] at k1
        rintro h28 rfl h31 rfl
        have ea : nI a - 1000 = nI (vs (i + 1)) := by
          have := hA y.1
          rw [n_1000, nI_sub (by omega)]
          exact congrArg nI (by omega)
        rw [ea]
        exact k1 rfl _ _ (rS_at (rS_24 r2)) (fun j hj => by rw [up32_n hj, up32_n hj]) (up32_s _ _ _)
      · have := hB.mpr y
        exact absurd (l2.mpr this.2) z3
  -- each
  have kE : ∀ {h : ah_T} {i2 q2 lv2 v : Nat} {c2 : Nat → Nat} {wd2 : Int32} {T2 : Nat → Int32} (m a : Mg), i2 ≤ n → lv2 ≤ 50 → 2 * q2 ≤ 15 * lv2 → rS h0 h i2 q2 lv2 c2 wd2 T2 U → gX q c wd q2 c2 wd2 → (∀ j, (j < 6 * k ∨ 6 * k + 3 ≤ j) → T2 j = T j) → T2 (6 * k) = nI v → cS1 (T2 (6 * k + 1)) c2 q2 (some m) → cS1 (T2 (6 * k + 2)) c2 q2 (some a) →
      pRnH cs vs isV i lv = (pB (pEach cs vs isV i2 lv2) cl0 fun e j l => pMp (fun k => ((v, some m, some a, e, k, none) : Cl)) (pTimes cs vs j l)) → Wp mX5_readRound Q 0 0 37 [some (.ref 20), some (.int (nI (6 * k))), none, some (.int 3)] [] h := by
    intro h i2 q2 lv2 v c2 wd2 T2 m a hi2 hl2 hb2 r2 g2 hT2 hv s1 s2 hR
    -- behind each
    have beh : ∀ {h : ah_T} {i3 q3 lv3 : Nat} {c3 : Nat → Nat} {wd3 : Int32} {T3 : Nat → Int32} (e : Option Mg), i3 ≤ n → lv3 ≤ 50 → 2 * q3 ≤ 15 * lv3 → rS h0 h i3 q3 lv3 c3 wd3 T3 U → gX q2 c2 wd2 q3 c3 wd3 → (∀ j, j ≠ 6 * k + 3 → T3 j = T2 j) → cS1 (T3 (6 * k + 3)) c3 q3 e →
        pRnH cs vs isV i lv = pMp (fun k => ((v, some m, some a, e, k, none) : Cl)) (pTimes cs vs i3 lv3) → ((pTimes cs vs i3 lv3).1 = true → ∀ h' T', rS h0 h' (pTimes cs vs i3 lv3).2.1 q3 (pTimes cs vs i3 lv3).2.2.1 c3 wd3 T' U → (∀ j, j ≠ 6 * k + 4 → T' j = T3 j) → T' (6 * k + 4) = nI (pTimes cs vs i3 lv3).2.2.2 → Q (some (.int 1)) h') ∧
      ((pTimes cs vs i3 lv3).1 = false → ∀ h', rFl h0 h' (pTimes cs vs i3 lv3).2.1 → Q (some (.int 0)) h') := by
      intro h i3 q3 lv3 c3 wd3 T3 e hi3 hl3 hb3 r3 g3 hT3 s3 hR
      rw [hR] at k1 k0
      refine ⟨fun et h' T' r' hT' h4 => ?_, fun ef h' f => k0 ef h' f⟩
      have lv4 := ((pTimes_ok (vs := vs) h0n i3 lv3 hi3 hl3).2.2 et).1
      refine k1 et h' q3 c3 wd3 T' r' (by show 2 * q3 ≤ 15 * (pTimes cs vs i3 lv3).2.2.1; omega) (gX_t g2 g3) (fun j hj => by rw [hT' j (by omega), hT3 j (by omega), hT2 j (by omega)]) ⟨?_, ?_, ?_, ?_, h4⟩
      · rw [hT' _ (by omega), hT3 _ (by omega)]; exact hv
      · rw [hT' _ (by omega), hT3 _ (by omega)]; exact cS1_g g3 s1
      · rw [hT' _ (by omega), hT3 _ (by omega)]; exact cS1_g g3 s2
      · rw [hT' _ (by omega)]; exact s3
    obtain ⟨v1, e1⟩ := rS_tk t r2 hi2
    refine T_X5_readRound_37 r2.1.1 _ _ ?_
    (first | refine ⟨fun _ => ?_, fun n_ => absurd (show ¬ (3 : Int32) < 3 by decide) n_⟩ | refine ⟨fun n_ => absurd (show ¬ (3 : Int32) < 3 by decide) n_, fun _ => ?_⟩ | refine ⟨fun y_ => absurd y_ (show ¬ (3 : Int32) < 3 by decide), fun _ => ?_⟩ | refine ⟨fun _ => ?_, fun y_ => absurd y_ (show ¬ (3 : Int32) < 3 by decide)⟩)
    (first | refine ⟨fun _ => ?_, fun n_ => absurd (show (3 : Int32) = 3 by rfl) n_⟩ | refine ⟨fun n_ => absurd (show (3 : Int32) = 3 by rfl) n_, fun _ => ?_⟩ | refine ⟨fun y_ => absurd y_ (show (3 : Int32) = 3 by rfl), fun _ => ?_⟩ | refine ⟨fun _ => ?_, fun y_ => absurd y_ (show (3 : Int32) = 3 by rfl)⟩)
    rw [e1]
    refine ⟨v1, fun z => ?_, fun z => ?_⟩
    · (first | refine ⟨fun _ => ?_, fun n_ => absurd (show ¬ (3 : Int32) = 2 by decide) n_⟩ | refine ⟨fun n_ => absurd (show ¬ (3 : Int32) = 2 by decide) n_, fun _ => ?_⟩ | refine ⟨fun y_ => absurd y_ (show ¬ (3 : Int32) = 2 by decide), fun _ => ?_⟩ | refine ⟨fun _ => ?_, fun y_ => absurd y_ (show ¬ (3 : Int32) = 2 by decide)⟩)
      have c5 : cs i2 = 24 := (wd_tk t hi2 (by decide) (by decide) rfl).mp z
      have hin := lt_n h0n hi2 (by omega)
      rintro h69 rfl
      have r3 := rS_at r2
      rw [show nI (6 * k) + 3 = nI (6 * k + 3) from nI_add _ 3, nI_clamp (show 6 * k + 3 < 2 ^ 31 by omega), n24 r3.1.1]
      refine ⟨(vp_nI (by omega)).mpr (by omega), ?_⟩
      rintro h73 rfl
      have hd : pEach cs vs isV i2 lv2 = pMp some (pSum cs vs isV 8 (i2 + 1) lv2) := by unfold pEach; rw [if_pos c5]
      obtain ⟨o1, o2, o3⟩ := pSum_ok (vs := vs) h0n hV 8 (i2 + 1) lv2 hin hl2
      refine c_sumTo t r3 hin hl2 hb2 (fun e h' q' c' wd' r' b g s d => ?_) (fun e h' f => ?_)
      · rw [show (3 + 1 : Int32) = 4 from rfl]
        refine T_X5_readRound_37 r'.1.1 _ _ ?_
        (first | refine ⟨fun _ => ?_, fun n_ => absurd (show (3 : Int32) < 4 by decide) n_⟩ | refine ⟨fun n_ => absurd (show (3 : Int32) < 4 by decide) n_, fun _ => ?_⟩ | refine ⟨fun y_ => absurd y_ (show (3 : Int32) < 4 by decide), fun _ => ?_⟩ | refine ⟨fun _ => ?_, fun y_ => absurd y_ (show (3 : Int32) < 4 by decide)⟩)
        obtain ⟨b1, b2⟩ := beh (some (pSum cs vs isV 8 (i2 + 1) lv2).2.2.2) o1 (o3 e).2.2 b r' g (fun j hj => up32_n hj) (by rw [up32_s]; exact s) (by rw [hR, hd, pB_pMp, pB_t e])
        exact kT o1 (o3 e).2.2 r' b1 b2
      · rw [hR, hd, pB_pMp, pB_f e] at k0
        exact k0 rfl h' f
    · have c5 : cs i2 ≠ 24 := fun y => z ((wd_tk t hi2 (by decide) (by decide) rfl).mpr y)
      have hd : pEach cs vs isV i2 lv2 = (true, i2, lv2, none) := by unfold pEach; rw [if_neg c5]
      obtain ⟨b1, b2⟩ := beh none hi2 hl2 hb2 r2 gX_r (fun j hj => rfl) (by rw [hT2 _ (by omega)]; exact hT _ (by omega) (by omega)) (by rw [hR, hd, pB_t rfl])
      exact kT hi2 hl2 r2 b1 b2
  -- from the verb on
  have kV : ∀ {h : ah_T} {v : Nat} {T1 : Nat → Int32}, rS h0 h i q lv c wd T1 U → cs i ≠ 0 → (∀ j, j ≠ 6 * k → T1 j = T j) → T1 (6 * k) = nI v →
      pRnH cs vs isV i lv = (pB (pSum cs vs isV 8 (i + 1) lv) cl0 fun m j l => pB (pTok cs 23 j l) cl0 fun _ j l => pB (pSum cs vs isV 8 j l) cl0 fun a j l => pB (pEach cs vs isV j l) cl0 fun e j l => pMp (fun k => ((v, some m, some a, e, k, none) : Cl)) (pTimes cs vs j l)) → Wp mX5_readRound Q 0 0 37 [some (.ref 20), some (.int (nI (6 * k))), none, some (.int 1)] [] h := by
    intro h v T1 r hne hT1 hTv hR
    have hin := lt_n h0n hi hne
    refine T_X5_readRound_37 r.1.1 _ _ ?_
    (first | refine ⟨fun _ => ?_, fun n_ => absurd (show ¬ (3 : Int32) < 1 by decide) n_⟩ | refine ⟨fun n_ => absurd (show ¬ (3 : Int32) < 1 by decide) n_, fun _ => ?_⟩ | refine ⟨fun y_ => absurd y_ (show ¬ (3 : Int32) < 1 by decide), fun _ => ?_⟩ | refine ⟨fun _ => ?_, fun y_ => absurd y_ (show ¬ (3 : Int32) < 1 by decide)⟩)
    (first | refine ⟨fun _ => ?_, fun n_ => absurd (show ¬ (1 : Int32) = 3 by decide) n_⟩ | refine ⟨fun n_ => absurd (show ¬ (1 : Int32) = 3 by decide) n_, fun _ => ?_⟩ | refine ⟨fun y_ => absurd y_ (show ¬ (1 : Int32) = 3 by decide), fun _ => ?_⟩ | refine ⟨fun _ => ?_, fun y_ => absurd y_ (show ¬ (1 : Int32) = 3 by decide)⟩)
    (first | refine ⟨fun _ => ?_, fun n_ => absurd (show ¬ (1 : Int32) = 2 by decide) n_⟩ | refine ⟨fun n_ => absurd (show ¬ (1 : Int32) = 2 by decide) n_, fun _ => ?_⟩ | refine ⟨fun y_ => absurd y_ (show ¬ (1 : Int32) = 2 by decide), fun _ => ?_⟩ | refine ⟨fun _ => ?_, fun y_ => absurd y_ (show ¬ (1 : Int32) = 2 by decide)⟩)
    rintro h36 rfl
    have r2 := rS_at r
    rw [nI_1, nI_clamp (show 6 * k + 1 < 2 ^ 31 by omega), n24 r2.1.1]
    refine ⟨(vp_nI (by omega)).mpr (by omega), ?_⟩
    rintro h40 rfl
    obtain ⟨o1, o2, o3⟩ := pSum_ok (vs := vs) h0n hV 8 (i + 1) lv hin hl
    refine c_sumTo t r2 hin hl hb (fun e h' q' c' wd' r' b g s d => ?_) (fun e h' f => ?_)
    · rw [show (1 + 1 : Int32) = 2 from rfl]
      rw [pB_t e] at hR
      generalize pSum cs vs isV 8 (i + 1) lv = S1 at *
      have l1 := (o3 e).2.2
      obtain ⟨v1, e1⟩ := rS_tk t r' o1
      refine T_X5_readRound_37 r'.1.1 _ _ ?_
      (first | refine ⟨fun _ => ?_, fun n_ => absurd (show ¬ (3 : Int32) < 2 by decide) n_⟩ | refine ⟨fun n_ => absurd (show ¬ (3 : Int32) < 2 by decide) n_, fun _ => ?_⟩ | refine ⟨fun y_ => absurd y_ (show ¬ (3 : Int32) < 2 by decide), fun _ => ?_⟩ | refine ⟨fun _ => ?_, fun y_ => absurd y_ (show ¬ (3 : Int32) < 2 by decide)⟩)
      (first | refine ⟨fun _ => ?_, fun n_ => absurd (show ¬ (2 : Int32) = 3 by decide) n_⟩ | refine ⟨fun n_ => absurd (show ¬ (2 : Int32) = 3 by decide) n_, fun _ => ?_⟩ | refine ⟨fun y_ => absurd y_ (show ¬ (2 : Int32) = 3 by decide), fun _ => ?_⟩ | refine ⟨fun _ => ?_, fun y_ => absurd y_ (show ¬ (2 : Int32) = 3 by decide)⟩)
      (first | refine ⟨fun _ => ?_, fun n_ => absurd (show (2 : Int32) = 2 by rfl) n_⟩ | refine ⟨fun n_ => absurd (show (2 : Int32) = 2 by rfl) n_, fun _ => ?_⟩ | refine ⟨fun y_ => absurd y_ (show (2 : Int32) = 2 by rfl), fun _ => ?_⟩ | refine ⟨fun _ => ?_, fun y_ => absurd y_ (show (2 : Int32) = 2 by rfl)⟩)
      rw [e1]
      refine ⟨v1, fun z => ?_, fun z => ?_⟩
      · have c5 : cs S1.2.1 = 23 := (wd_tk t o1 (by decide) (by decide) rfl).mp z
        have hin2 := lt_n h0n o1 (by omega)
        have hd : pTok cs 23 S1.2.1 S1.2.2.1 = (true, S1.2.1 + 1, S1.2.2.1, ()) := by unfold pTok; rw [if_pos c5]
        rw [hd, pB_t rfl] at hR
        rintro h52 rfl
        have r3 := rS_at r'
        rw [show nI (6 * k) + 2 = nI (6 * k + 2) from nI_add _ 2, nI_clamp (show 6 * k + 2 < 2 ^ 31 by omega), n24 r3.1.1]
        refine ⟨(vp_nI (by omega)).mpr (by omega), ?_⟩
        rintro h56 rfl
        obtain ⟨p1, p2, p3⟩ := pSum_ok (vs := vs) h0n hV 8 (S1.2.1 + 1) S1.2.2.1 hin2 l1
        refine c_sumTo t r3 hin2 l1 b (fun e2 h2 q2 c2 wd2 r2 b2 g2 s2 d2 => ?_) (fun e2 h2 f => ?_)
        · rw [show (2 + 1 : Int32) = 3 from rfl]
          have hR2 : pRnH cs vs isV i lv = (pB (pSum cs vs isV 8 (S1.2.1 + 1) S1.2.2.1) cl0 fun a j l => pB (pEach cs vs isV j l) cl0 fun e j l => pMp (fun k => ((v, some S1.2.2.2, some a, e, k, none) : Cl)) (pTimes cs vs j l)) := hR
          rw [pB_t e2] at hR2
          refine kE S1.2.2.2 (pSum cs vs isV 8 (S1.2.1 + 1) S1.2.2.1).2.2.2 p1 (p3 e2).2.2 b2 r2 (gX_t g g2) (fun j hj => by rw [up32_n (by omega), up32_n (by omega), hT1 _ (by omega)]) ?_ ?_ (by rw [up32_s]; exact s2) hR2
          · rw [up32_n (by omega), up32_n (by omega)]; exact hTv
          · rw [up32_n (by omega), up32_s]; exact cS1_g g2 s
        · have hR2 : pRnH cs vs isV i lv = (pB (pSum cs vs isV 8 (S1.2.1 + 1) S1.2.2.1) cl0 fun a j l => pB (pEach cs vs isV j l) cl0 fun e j l => pMp (fun k => ((v, some S1.2.2.2, some a, e, k, none) : Cl)) (pTimes cs vs j l)) := hR
          rw [pB_f e2] at hR2
          rw [hR2] at k0
          exact k0 rfl h2 f
      · have c5 : cs S1.2.1 ≠ 23 := fun y => z ((wd_tk t o1 (by decide) (by decide) rfl).mpr y)
        have hd : pTok cs 23 S1.2.1 S1.2.2.1 = pFail S1.2.1 S1.2.2.1 () := by unfold pTok; rw [if_neg c5]
        rw [hd, pB_f rfl] at hR
        rw [hR] at k0
        exact k0 rfl h' ⟨r'.1, r'.2.1⟩
    · rw [hR, pB_f e] at k0
      exact k0 rfl h' f
  obtain ⟨v1, e1⟩ := rS_tk t r hi
  have tl := tkA_le t hi
  have w1 := tkA_word t hi (c := 21) (by decide) (by decide)
  have w2 := tkA_word t hi (c := 22) (by decide) (by decide)
  rw [show wdL.getD 21 98 = 16 from rfl] at w1
  rw [show wdL.getD 22 98 = 17 from rfl] at w2
  refine T_X5_readRound r.1.1 _ ?_
  rw [e1]
  have iff1 : ∀ j : Nat, j ≤ 1 → (nI (tkA cs vs n i) - 16 = nI j ↔ tkA cs vs n i = 16 + j) := by
    intro j hj
    rw [show (nI (tkA cs vs n i) - 16 = nI j) ↔ nI (tkA cs vs n i) = nI (16 + j) from ⟨fun y => by rw [← nI_add, ← y, ← n_16]; clear e1; grind, fun y => by rw [y, ← nI_add, ← n_16]; clear e1; grind⟩, nI_eq (by omega) (by omega)]
  have wr : ∀ v : Nat, v ≤ 1 → tkA cs vs n i = 16 + v → ((vp_in (nI (6 * k) + 0) (ah_n h 24)) ∧ (∀ h4, h4 = ah_si h 24 (Int32.toNatClampNeg (nI (6 * k) + 0)) (3 + (nI (tkA cs vs n i) - 16)) → Wp mX5_readRound Q 0 0 37 [some (.ref 20), some (.int (nI (6 * k))), none, some (.int 1)] [] h4)) := by
    intro v hv y
    rw [show nI (6 * k) + 0 = nI (6 * k + 0) from nI_add _ 0, nI_clamp (show 6 * k + 0 < 2 ^ 31 by omega), n24 r.1.1]
    refine ⟨(vp_nI (by omega)).mpr (by omega), ?_⟩
    rintro h4 rfl
    have ev : (3 : Int32) + (nI (tkA cs vs n i) - 16) = nI (3 + v) := by rw [(iff1 v hv).mpr y, n_3, nI_add]
    rw [ev]
    have cv : cs i = 21 + v := by
      rcases (show v = 0 ∨ v = 1 by omega) with z | z
      · subst z; exact w1.mp y
      · subst z; exact w2.mp y
    refine kV (v := 3 + v) (rS_24 r) (by omega) (fun j hj => up32_n (by omega)) (by rw [show 6 * k = 6 * k + 0 from rfl, up32_s]) ?_
    have hd : pVerb cs i lv = (true, i + 1, lv, 3 + v) := by
      unfold pVerb
      rcases (show v = 0 ∨ v = 1 by omega) with z | z
      · subst z; rw [if_pos cv]
      · subst z; rw [if_neg (by omega), if_pos cv]
    unfold pRnH
    rw [hd, pB_t rfl]
  refine ⟨v1, fun z => wr 0 (by omega) ((iff1 0 (by omega)).mp z), fun z => ⟨fun z2 => wr 1 (by omega) ((iff1 1 (by omega)).mp z2), fun z2 => ?_⟩⟩
  have n1 : cs i ≠ 21 := fun y => z ((iff1 0 (by omega)).mpr (w1.mpr y))
  have n2 : cs i ≠ 22 := fun y => z2 ((iff1 1 (by omega)).mpr (w2.mpr y))
  have hd : pVerb cs i lv = pFail i lv 0 := by unfold pVerb; rw [if_neg n1, if_neg n2]
  have hR : pRnH cs vs isV i lv = (false, i, lv, cl0) := by unfold pRnH; rw [hd, pB_f rfl]; rfl
  rw [hR] at k0
  exact k0 rfl h ⟨r.1, r.2.1⟩
end CL
