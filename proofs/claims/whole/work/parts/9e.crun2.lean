/-! ===== the class runs a clause once ===== -/
/-- what a rounds' clause always has -/
def clR (cl : Cl) : Prop := (∃ f, cl.2.1 = some f) ∧ (∃ a, cl.2.2.1 = some a) ∧ 1 ≤ cl.2.2.2.2.1 ∧ cl.2.2.2.2.1 ≤ 20 ∧ (cl.1 = 3 ∨ cl.1 = 4)
theorem tw_rw {A : Nat → Nat} (h10 : A 246 ≤ 10) (h24 : A 247 ≤ 24) {x1 : Int32} {l : Int} (e : x1.toInt = l) {m on : Nat} (hm : m < 120) (ho : on < 2) :
    (tw A x1 (nI m) (nI on) = 0 ∧ rwy l m A = 0 ∧ tA A x1 (nI m) (nI on) = rA1 l m on A) ∨ (tw A x1 (nI m) (nI on) = -5 ∧ rwy l m A = -5 ∧ tA A x1 (nI m) (nI on) = A ∧ rA1 l m on A = A) ∨ (tw A x1 (nI m) (nI on) = -2 ∧ rwy l m A = -3 ∧ tA A x1 (nI m) (nI on) = A ∧ rA1 l m on A = A) := by
  have ei : ((0 : Int32) ≤ x1 ∧ x1 < nI (A 246)) ↔ (0 ≤ l ∧ l < A 246) := by
    rw [Int32.le_iff_toInt_le, Int32.lt_iff_toInt_lt, nI_toInt (by omega), e]
    exact Iff.rfl
  have g1 : ¬ ((m : Int) < 0 ∨ 120 ≤ (m : Int)) := by omega
  by_cases c : 0 ≤ l ∧ l < A 246
  · obtain ⟨j, hj, ej⟩ := q_hasn (n := A 246) (by omega) (ei.mpr c)
    have el : l.toNat = j := by
      rw [← e, ej, nI_toInt (by omega)]; rfl
    have g2 : ¬ (l < 0 ∨ (A 246 : Int) ≤ l) := by omega
    by_cases c3 : A 247 = 24
    · have r : rwy l m A = -5 := by unfold rwy; rw [if_neg g1, if_neg g2, if_pos c3]
      have t := tw_5 h10 hj hm ho ej (x2 := nI m) (x3 := nI on) rfl rfl c3
      exact .inr (.inl ⟨t, r, tA_no (by rw [t]; decide), by unfold rA1; rw [if_neg (by rw [r]; decide)]⟩)
    · have r : rwy l m A = 0 := by unfold rwy; rw [if_neg g1, if_neg g2, if_neg c3]
      have t := tw_0 h10 hj hm ho ej (x2 := nI m) (x3 := nI on) rfl rfl (by omega)
      refine .inl ⟨t, r, ?_⟩
      rw [tA_0 h10 hj hm ho ej rfl rfl (by omega)]
      unfold rA1
      rw [if_pos r, el]
      rfl
  · have g2 : l < 0 ∨ (A 246 : Int) ≤ l := by omega
    have r : rwy l m A = -3 := by unfold rwy; rw [if_neg g1, if_pos g2]
    have t := tw_2 (A := A) (x1 := x1) (q_is0 (n := 120) (by decide) hm) (q_is0 (n := 2) (by decide) ho) (fun q => c (ei.mp q))
    exact .inr (.inr ⟨t, r, tA_no (by rw [t]; decide), by unfold rA1; rw [if_neg (by rw [r]; decide)]⟩)
theorem l32_of {M : Int64} {m : Nat} (e : M.toInt = m) (hm : m < 1000000) : M.toInt32 = nI m := by
  have := i32_of (x := M) (by rw [e]; omega) (by rw [e]; omega)
  exact Int32.toInt_inj.mp (by rw [this, e, nI_toInt (by omega)])
section CR
variable {h0 h : ah_T} {cls : List Cl} {x : Nat}
/-- the words, as numbers -/
def wOn (h : ah_T) (w : Nat → Int) : Prop := ∀ k, k < 13 → (ah_i h 27 k).toInt = w k ∧ -1000000000 ≤ w k ∧ w k ≤ 1000000000
theorem wOn_m {h1 : ah_T} {w : Nat → Int} (m : mfr h h1) (o : wOn h w) : wOn h1 w := fun k hk => by rw [(m.2.2.1 27 (by decide) (by decide)).1]; exact o k hk
theorem c6_m {h1 : ah_T} {A : Nat → Nat} (m : mfr h h1) (c : c6 A h) : c6 A h1 := by
  obtain ⟨c1, c2, c3, c4, c5, c7, c8⟩ := c
  have e4 := (m.2.2.1 4 (by decide) (by decide)).1
  have e6 := (m.2.2.1 6 (by decide) (by decide)).1
  have e7 := (m.2.2.1 7 (by decide) (by decide)).1
  exact ⟨by rw [e4]; exact c1, c2, by rw [e6]; exact c3, by rw [e6]; exact c4, by rw [e6]; exact c5, c7, fun j hj => by rw [e7]; exact c8 j hj⟩
theorem c_runOnce {Q : Option Value → ah_T → Prop} (hs : Sh h) {A : Nat → Nat} {k r : Nat} {w : Nat → Int} {x1 x2 : Int32} (wf : WF A) (t : tx h x true cls) (hk : k < cls.length) (cr : clR (cls.getD k cl0)) (c : c6 A h) (ww : wOn h w) (hr : r ≤ 20) (e1 : x1 = nI k) (e2 : x2 = nI r)
    (hq : ∀ h', qFr h h' → c6 (once (cls.getD k cl0) w r A).2 h' → Q (some (.int (once (cls.getD k cl0) w r A).1)) h') : Mt mX11_runOnce [.ref 0, .ref x, .int x1, .int x2] h Q := by
  subst e1 e2
  have t' := t
  obtain ⟨⟨t1, t2, t3, t4, t5, t6⟩, t7, t8, t9, t10, t11, t12, t13, cd, q, t14, t15, t16, t17⟩ := t'
  obtain ⟨o1, o2, o3, o4, o5, o6, o7, o8⟩ := t17 k hk
  obtain ⟨⟨f, ef⟩, ⟨a, ea⟩, cr3, cr4, cr5⟩ := cr
  generalize hcl : cls.getD k cl0 = cl at *
  rw [ef] at o3
  rw [ea] at o4
  have h10 := wf.2.1.1
  have h24 := wf.2.2.1.1
  -- frames of the machine
  have tm : ∀ {g g1 : ah_T}, mfr g g1 → tx g x true cls → tx g1 x true cls := fun m tt => tx_q (qFr_m m) tt
  have cd1 : ∀ {g g1 : ah_T}, mfr g g1 → (∀ j, j < q → ah_i g (x + 1) j = nI (cd j) ∧ cd j < 65536) → ∀ j, j < q → ah_i g1 (x + 1) j = nI (cd j) ∧ cd j < 65536 := fun m o j hj => by rw [(m.2.2.1 (x + 1) (by omega) (by omega)).1]; exact o j hj
  have i2 : ∀ {g g1 : ah_T}, mfr g g1 → ∀ j, ah_i g1 (x + 2) j = ah_i g (x + 2) j := fun m => (m.2.2.1 (x + 2) (by omega) (by omega)).1
  have fl : ∀ {o : Option Int} {b : Int32} {v : Int32}, (∀ z, o = some z → v.toInt = z ∧ b = 0) → (o = none → v = 0 ∧ b = 1) → (o = none ∧ b = 1) ∨ (∃ z, o = some z ∧ v.toInt = z ∧ b = 0) := by
    intro o b v k1 k2
    cases o with
    | none => exact .inl ⟨rfl, (k2 rfl).2⟩
    | some z => exact .inr ⟨z, rfl, k1 z rfl⟩
  refine T_X11_runOnce hs x _ _ t3 ⟨x + 1, t7, t4, c_part (j := 1) hs t rfl rfl hk (by omega) ⟨_, rfl, hs, t3, t4, t7, t4, ?_⟩⟩
  refine c_runS hs (by omega) t4 t15 t14 t16 ww o3 (fun v13 h11 m1 p1 p2 => ⟨_, rfl, m1.1, (tm m1 t).1.2.2.1, (tm m1 t).2.1, (tm m1 t).1.2.2.2.1, ?_⟩)
  have tt1 := tm m1 t
  refine c_part (j := 2) m1.1 tt1 rfl rfl hk (by omega) ⟨_, rfl, m1.1, tt1.1.2.2.1, tt1.1.2.2.2.1, tt1.2.1, tt1.1.2.2.2.1, ?_⟩
  rw [i2 m1]
  have n1 : ah_n h11 (x + 1) = q := by rw [(m1.2.2.1 (x + 1) (by omega) (by omega)).2.2.2.2]; exact t15
  refine c_runS m1.1 (by omega) tt1.1.2.2.2.1 n1 t14 (cd1 m1 t16) (wOn_m m1 ww) o4 (fun v26 h24' m2 p3 p4 => ⟨_, rfl, m2.1, (tm m2 tt1).1.2.2.1, (tm m2 tt1).2.1, (tm m2 tt1).1.2.2.2.1, ?_⟩)
  have tt2 := tm m2 tt1
  refine c_part (j := 3) m2.1 tt2 rfl rfl hk (by omega) ⟨_, rfl, m2.1, tt2.1.2.2.1, tt2.2.1, tt2.1.2.2.2.1, ?_⟩
  rw [i2 m2, i2 m1]
  have n2 : ah_n h24' (x + 1) = q := by rw [(m2.2.2.1 (x + 1) (by omega) (by omega)).2.2.2.2]; exact n1
  have F1 := fl p1 p2
  have F2 := fl p3 p4
  have q12 := qFr_t (qFr_m m1) (qFr_m m2)
  have c2 := c6_m m2 (c6_m m1 c)
  have once_ : ∀ o : Option Int, ev1 cl.2.2.2.1 w = o → once cl w r A = (match f w with
      | none => (-3, A)
      | some l => match a w with
        | none => (-3, A)
        | some t => match o with
          | none => (-3, A)
          | some e => (rwy l (t + e * r) A, rA1 l (t + e * r) (if cl.1 = 3 then 1 else 0) A)) := by
    intro o eo
    unfold once
    rw [ef, ea, eo]
    rfl
  have r9 : ((nI r).toInt64).toInt = r := by rw [Int32.toInt_toInt64, nI_toInt (by omega)]
  cases ee : cl.2.2.2.1 with
  | none =>
    rw [ee] at o5
    have o5' : ah_i h (x + 2) (6 * k + 3) = -1 := o5
    rw [o5']
    (first | refine ⟨fun _ => ?_, fun n_ => absurd (show (-1 : Int32) = -1 by rfl) n_⟩ | refine ⟨fun n_ => absurd (show (-1 : Int32) = -1 by rfl) n_, fun _ => ?_⟩ | refine ⟨fun y_ => absurd y_ (show (-1 : Int32) = -1 by rfl), fun _ => ?_⟩ | refine ⟨fun _ => ?_, fun y_ => absurd y_ (show (-1 : Int32) = -1 by rfl)⟩)
    rw [once_ (some 0) (by rw [ee]; rfl)] at hq
    rcases F1 with ⟨z1, b1⟩ | ⟨L, z1, hL, b1⟩
    · rw [z1] at hq
      have br : ¬ (ah_i h11 26 1 ||| ah_i h24' 26 1) = 0 := by
        rcases F2 with ⟨z2, b2⟩ | ⟨T, z2, hT, b2⟩ <;> rw [b1, b2] <;> decide
      (first | refine ⟨fun _ => ?_, fun n_ => absurd (br) n_⟩ | refine ⟨fun n_ => absurd (br) n_, fun _ => ?_⟩ | refine ⟨fun y_ => absurd y_ (br), fun _ => ?_⟩ | refine ⟨fun _ => ?_, fun y_ => absurd y_ (br)⟩)
      exact hq h24' q12 c2
    · rw [z1] at hq
      rcases F2 with ⟨z2, b2⟩ | ⟨T, z2, hT, b2⟩
      · rw [z2] at hq
        (first | refine ⟨fun _ => ?_, fun n_ => absurd (show ¬ (ah_i h11 26 1 ||| ah_i h24' 26 1) = 0 by rw [b1, b2]; decide) n_⟩ | refine ⟨fun n_ => absurd (show ¬ (ah_i h11 26 1 ||| ah_i h24' 26 1) = 0 by rw [b1, b2]; decide) n_, fun _ => ?_⟩ | refine ⟨fun y_ => absurd y_ (show ¬ (ah_i h11 26 1 ||| ah_i h24' 26 1) = 0 by rw [b1, b2]; decide), fun _ => ?_⟩ | refine ⟨fun _ => ?_, fun y_ => absurd y_ (show ¬ (ah_i h11 26 1 ||| ah_i h24' 26 1) = 0 by rw [b1, b2]; decide)⟩)
        exact hq h24' q12 c2
      · rw [z2] at hq
        (first | refine ⟨fun _ => ?_, fun n_ => absurd (show (ah_i h11 26 1 ||| ah_i h24' 26 1) = 0 by rw [b1, b2]; decide) n_⟩ | refine ⟨fun n_ => absurd (show (ah_i h11 26 1 ||| ah_i h24' 26 1) = 0 by rw [b1, b2]; decide) n_, fun _ => ?_⟩ | refine ⟨fun y_ => absurd y_ (show (ah_i h11 26 1 ||| ah_i h24' 26 1) = 0 by rw [b1, b2]; decide), fun _ => ?_⟩ | refine ⟨fun _ => ?_, fun y_ => absurd y_ (show (ah_i h11 26 1 ||| ah_i h24' 26 1) = 0 by rw [b1, b2]; decide)⟩)
        obtain ⟨mm, emm⟩ : ∃ mm, mm = T + 0 * (r : Int) := ⟨_, rfl⟩
        have hq' : ∀ h', qFr h h' → c6 (rA1 L (T + 0 * (r : Int)) (if cl.1 = 3 then 1 else 0) A) h' → Q (some (.int (rwy L (T + 0 * (r : Int)) A))) h' := hq
        clear hq
        have hq := hq'
        clear hq'
        rw [← emm] at hq
        have eM : (v26.toInt64 + ((0 : Int32)).toInt64 * (nI r).toInt64).toInt = mm := by
          have b26 : -2147483648 ≤ v26.toInt ∧ v26.toInt < 2147483648 := ⟨Int32.le_toInt v26, Int32.toInt_lt v26⟩
          have m0 : (((0 : Int32)).toInt64 * (nI r).toInt64).toInt = 0 := by
            rw [l_mul (by decide) (by decide) (by rw [r9]; omega) (by rw [r9]; omega)]
            rw [show ((0 : Int32)).toInt64.toInt = 0 from rfl, Int.zero_mul]
          rw [l_add (by rw [Int32.toInt_toInt64]; omega) (by rw [Int32.toInt_toInt64]; omega) (by rw [m0]; omega) (by rw [m0]; omega), m0, Int32.toInt_toInt64, hT, emm]
          omega
        have qG := q12
        have cG := c2
        have tG := tt2
        have iG : ∀ j, ah_i h24' (x + 2) j = ah_i h (x + 2) j := fun j => by rw [i2 m2, i2 m1]
        -- all is told: L lamp, T at, E each, minute M in the heap G
        have c1 : (lg_cmp (v26.toInt64 + ((0:Int32)).toInt64 * (nI r).toInt64) (0 : Int64) < 0) ↔ (mm < 0) := by rw [lg_cmp_lt, Int64.lt_iff_toInt_lt, eM]; exact Iff.rfl
        have c3 : (lg_cmp (v26.toInt64 + ((0:Int32)).toInt64 * (nI r).toInt64) (120 : Int64) < 0) ↔ (mm < 120) := by rw [lg_cmp_lt, Int64.lt_iff_toInt_lt, eM]; exact Iff.rfl
        have no : (mm < 0 ∨ 120 ≤ mm) → Q (some (.int (-3))) h24' := by
          intro z
          have er : rwy L mm A = -3 := by unfold rwy; rw [if_pos z]
          have ea1 : rA1 L mm (if cl.1 = 3 then 1 else 0) A = A := by unfold rA1; rw [if_neg (by rw [er]; decide)]
          rw [er, ea1] at hq
          exact hq h24' qG cG
        refine ⟨fun z => no (.inl (c1.mp z)), fun z => ⟨fun z2 => ?_, fun z2 => no (.inr (by have := mt c3.mpr z2; omega))⟩⟩
        have hm0 : 0 ≤ mm := by have := mt c1.mpr z; omega
        have hm1 : mm < 120 := c3.mp z2
        obtain ⟨m, em⟩ : ∃ m : Nat, mm = m := ⟨mm.toNat, by omega⟩
        rw [em] at eM hq
        refine c_part (j := 0) qG.1 tG rfl rfl hk (by omega) ⟨_, rfl, qG.1, tG.1.2.2.1, tG.2.1, tG.1.2.2.2.1, ?_⟩
        rw [iG, show ah_i h (x + 2) (6 * k + 0) = nI cl.1 from o1, l32_of eM (by omega)]
        have fin : ∀ on : Nat, on < 2 → on = (if cl.1 = 3 then 1 else 0) → Mt mX10_tell [.ref 1, .int v13, .int (nI m), .int (nI on)] h24' (ab_qi fun v49 h47 => Sh h47 ∧ ah_k h47 x = 9 ∧ ah_r h47 x 0 = some (x + 1) ∧ ah_k h47 (x + 1) = 14 ∧ ((v49 = 0 → Q (some (.int v49)) h47) ∧ (¬ v49 = 0 → ((¬ v49 = (-5) → Q (some (.int (-3))) h47) ∧ (v49 = (-5) → Q (some (.int v49)) h47))))) := by
          intro on hon eon
          rw [← eon] at hq
          refine c_tell6 qG.1 cG _ _ _ (fun g2 s2 x2 c2' e2 => ?_)
          have q2 : qFr h24' g2 := ⟨s2, x2, fun a n1 n2 _ _ _ => e2 a n1 n2, fun j _ _ => by rw [(e2 27 (by decide) (by decide)).1], wB_of (e2 27 (by decide) (by decide)).1⟩
          have t2' := tx_q q2 tG
          refine ⟨_, rfl, s2, t2'.1.2.2.1, t2'.2.1, t2'.1.2.2.2.1, ?_⟩
          have q3 := qFr_t qG q2
          rcases tw_rw h10 h24 (A := A) (x1 := v13) (l := L) hL (m := m) (on := on) (by omega) hon with ⟨u1, u2, u3⟩ | ⟨u1, u2, u3, u4⟩ | ⟨u1, u2, u3, u4⟩
          · rw [u3] at c2'
            rw [u2] at hq
            rw [u1]
            (first | refine ⟨fun _ => ?_, fun n_ => absurd (show (0 : Int32) = 0 by rfl) n_⟩ | refine ⟨fun n_ => absurd (show (0 : Int32) = 0 by rfl) n_, fun _ => ?_⟩ | refine ⟨fun y_ => absurd y_ (show (0 : Int32) = 0 by rfl), fun _ => ?_⟩ | refine ⟨fun _ => ?_, fun y_ => absurd y_ (show (0 : Int32) = 0 by rfl)⟩)
            exact hq g2 q3 c2'
          · rw [u3] at c2'
            rw [u2, u4] at hq
            rw [u1]
            (first | refine ⟨fun _ => ?_, fun n_ => absurd (show ¬ (-5 : Int32) = 0 by decide) n_⟩ | refine ⟨fun n_ => absurd (show ¬ (-5 : Int32) = 0 by decide) n_, fun _ => ?_⟩ | refine ⟨fun y_ => absurd y_ (show ¬ (-5 : Int32) = 0 by decide), fun _ => ?_⟩ | refine ⟨fun _ => ?_, fun y_ => absurd y_ (show ¬ (-5 : Int32) = 0 by decide)⟩)
            (first | refine ⟨fun _ => ?_, fun n_ => absurd (show (-5 : Int32) = -5 by rfl) n_⟩ | refine ⟨fun n_ => absurd (show (-5 : Int32) = -5 by rfl) n_, fun _ => ?_⟩ | refine ⟨fun y_ => absurd y_ (show (-5 : Int32) = -5 by rfl), fun _ => ?_⟩ | refine ⟨fun _ => ?_, fun y_ => absurd y_ (show (-5 : Int32) = -5 by rfl)⟩)
            exact hq g2 q3 c2'
          · rw [u3] at c2'
            rw [u2, u4] at hq
            rw [u1]
            (first | refine ⟨fun _ => ?_, fun n_ => absurd (show ¬ (-2 : Int32) = 0 by decide) n_⟩ | refine ⟨fun n_ => absurd (show ¬ (-2 : Int32) = 0 by decide) n_, fun _ => ?_⟩ | refine ⟨fun y_ => absurd y_ (show ¬ (-2 : Int32) = 0 by decide), fun _ => ?_⟩ | refine ⟨fun _ => ?_, fun y_ => absurd y_ (show ¬ (-2 : Int32) = 0 by decide)⟩)
            (first | refine ⟨fun _ => ?_, fun n_ => absurd (show ¬ (-2 : Int32) = -5 by decide) n_⟩ | refine ⟨fun n_ => absurd (show ¬ (-2 : Int32) = -5 by decide) n_, fun _ => ?_⟩ | refine ⟨fun y_ => absurd y_ (show ¬ (-2 : Int32) = -5 by decide), fun _ => ?_⟩ | refine ⟨fun _ => ?_, fun y_ => absurd y_ (show ¬ (-2 : Int32) = -5 by decide)⟩)
            exact hq g2 q3 c2'
        by_cases v3 : cl.1 = 3
        · (first | refine ⟨fun _ => ?_, fun n_ => absurd (show nI cl.1 = 3 by rw [v3]; rfl) n_⟩ | refine ⟨fun n_ => absurd (show nI cl.1 = 3 by rw [v3]; rfl) n_, fun _ => ?_⟩ | refine ⟨fun y_ => absurd y_ (show nI cl.1 = 3 by rw [v3]; rfl), fun _ => ?_⟩ | refine ⟨fun _ => ?_, fun y_ => absurd y_ (show nI cl.1 = 3 by rw [v3]; rfl)⟩)
          exact fin 1 (by omega) (by rw [if_pos v3])
        · (first | refine ⟨fun _ => ?_, fun n_ => absurd (show ¬ nI cl.1 = 3 by rw [n_3, nI_eq (by omega) (by omega)]; exact v3) n_⟩ | refine ⟨fun n_ => absurd (show ¬ nI cl.1 = 3 by rw [n_3, nI_eq (by omega) (by omega)]; exact v3) n_, fun _ => ?_⟩ | refine ⟨fun y_ => absurd y_ (show ¬ nI cl.1 = 3 by rw [n_3, nI_eq (by omega) (by omega)]; exact v3), fun _ => ?_⟩ | refine ⟨fun _ => ?_, fun y_ => absurd y_ (show ¬ nI cl.1 = 3 by rw [n_3, nI_eq (by omega) (by omega)]; exact v3)⟩)
          exact fin 0 (by omega) (by rw [if_neg v3])
  | some e =>
    rw [ee] at o5
    have o5' : cS1 (ah_i h (x + 2) (6 * k + 3)) cd q (some e) := o5
    have ne1 : ¬ ah_i h (x + 2) (6 * k + 3) = -1 := by
      obtain ⟨p, p', nd, e3, hp, hnd, im, he⟩ := o5'
      rw [e3]
      have := im.1
      exact nI_m1 (by omega)
    (first | refine ⟨fun _ => ?_, fun n_ => absurd (ne1) n_⟩ | refine ⟨fun n_ => absurd (ne1) n_, fun _ => ?_⟩ | refine ⟨fun y_ => absurd y_ (ne1), fun _ => ?_⟩ | refine ⟨fun _ => ?_, fun y_ => absurd y_ (ne1)⟩)
    refine c_part (j := 3) m2.1 tt2 rfl rfl hk (by omega) ⟨_, rfl, m2.1, tt2.1.2.2.1, tt2.1.2.2.2.1, tt2.2.1, tt2.1.2.2.2.1, ?_⟩
    rw [i2 m2, i2 m1]
    refine c_runS m2.1 (by omega) tt2.1.2.2.2.1 n2 t14 (cd1 m2 (cd1 m1 t16)) (wOn_m m2 (wOn_m m1 ww)) o5' (fun v72 h70 m3 p5 p6 => ⟨_, rfl, m3.1, (tm m3 tt2).1.2.2.1, (tm m3 tt2).2.1, (tm m3 tt2).1.2.2.2.1, ?_⟩)
    have tt3 := tm m3 tt2
    have F3 := fl p5 p6
    have q13 := qFr_t q12 (qFr_m m3)
    have c3' := c6_m m3 c2
    rw [once_ (e w) (by rw [ee]; rfl)] at hq
    rcases F1 with ⟨z1, b1⟩ | ⟨L, z1, hL, b1⟩
    · rw [z1] at hq
      have br : ¬ ((ah_i h11 26 1 ||| ah_i h24' 26 1) ||| ah_i h70 26 1) = 0 := by
        rcases F2 with ⟨z2, b2⟩ | ⟨T, z2, hT, b2⟩ <;> rcases F3 with ⟨z3, b3⟩ | ⟨E, z3, hE, b3⟩ <;> rw [b1, b2, b3] <;> decide
      (first | refine ⟨fun _ => ?_, fun n_ => absurd (br) n_⟩ | refine ⟨fun n_ => absurd (br) n_, fun _ => ?_⟩ | refine ⟨fun y_ => absurd y_ (br), fun _ => ?_⟩ | refine ⟨fun _ => ?_, fun y_ => absurd y_ (br)⟩)
      exact hq h70 q13 c3'
    · rw [z1] at hq
      rcases F2 with ⟨z2, b2⟩ | ⟨T, z2, hT, b2⟩
      · rw [z2] at hq
        have br : ¬ ((ah_i h11 26 1 ||| ah_i h24' 26 1) ||| ah_i h70 26 1) = 0 := by
          rcases F3 with ⟨z3, b3⟩ | ⟨E, z3, hE, b3⟩ <;> rw [b1, b2, b3] <;> decide
        (first | refine ⟨fun _ => ?_, fun n_ => absurd (br) n_⟩ | refine ⟨fun n_ => absurd (br) n_, fun _ => ?_⟩ | refine ⟨fun y_ => absurd y_ (br), fun _ => ?_⟩ | refine ⟨fun _ => ?_, fun y_ => absurd y_ (br)⟩)
        exact hq h70 q13 c3'
      · rw [z2] at hq
        rcases F3 with ⟨z3, b3⟩ | ⟨E, z3, hE, b3⟩
        · rw [z3] at hq
          (first | refine ⟨fun _ => ?_, fun n_ => absurd (show ¬ ((ah_i h11 26 1 ||| ah_i h24' 26 1) ||| ah_i h70 26 1) = 0 by rw [b1, b2, b3]; decide) n_⟩ | refine ⟨fun n_ => absurd (show ¬ ((ah_i h11 26 1 ||| ah_i h24' 26 1) ||| ah_i h70 26 1) = 0 by rw [b1, b2, b3]; decide) n_, fun _ => ?_⟩ | refine ⟨fun y_ => absurd y_ (show ¬ ((ah_i h11 26 1 ||| ah_i h24' 26 1) ||| ah_i h70 26 1) = 0 by rw [b1, b2, b3]; decide), fun _ => ?_⟩ | refine ⟨fun _ => ?_, fun y_ => absurd y_ (show ¬ ((ah_i h11 26 1 ||| ah_i h24' 26 1) ||| ah_i h70 26 1) = 0 by rw [b1, b2, b3]; decide)⟩)
          exact hq h70 q13 c3'
        · rw [z3] at hq
          (first | refine ⟨fun _ => ?_, fun n_ => absurd (show ((ah_i h11 26 1 ||| ah_i h24' 26 1) ||| ah_i h70 26 1) = 0 by rw [b1, b2, b3]; decide) n_⟩ | refine ⟨fun n_ => absurd (show ((ah_i h11 26 1 ||| ah_i h24' 26 1) ||| ah_i h70 26 1) = 0 by rw [b1, b2, b3]; decide) n_, fun _ => ?_⟩ | refine ⟨fun y_ => absurd y_ (show ((ah_i h11 26 1 ||| ah_i h24' 26 1) ||| ah_i h70 26 1) = 0 by rw [b1, b2, b3]; decide), fun _ => ?_⟩ | refine ⟨fun _ => ?_, fun y_ => absurd y_ (show ((ah_i h11 26 1 ||| ah_i h24' 26 1) ||| ah_i h70 26 1) = 0 by rw [b1, b2, b3]; decide)⟩)
          obtain ⟨mm, emm⟩ : ∃ mm, mm = T + E * (r : Int) := ⟨_, rfl⟩
          have hq' : ∀ h', qFr h h' → c6 (rA1 L (T + E * (r : Int)) (if cl.1 = 3 then 1 else 0) A) h' → Q (some (.int (rwy L (T + E * (r : Int)) A))) h' := hq
          clear hq
          have hq := hq'
          clear hq'
          rw [← emm] at hq
          have eM : (v26.toInt64 + v72.toInt64 * (nI r).toInt64).toInt = mm := by
            have b26 : -2147483648 ≤ v26.toInt ∧ v26.toInt < 2147483648 := ⟨Int32.le_toInt v26, Int32.toInt_lt v26⟩
            have b72 : -2147483648 ≤ v72.toInt ∧ v72.toInt < 2147483648 := ⟨Int32.le_toInt v72, Int32.toInt_lt v72⟩
            have bm1 : -2147483648 * 20 ≤ v72.toInt * (r : Int) := by
              have h1 : -2147483648 * (r : Int) ≤ v72.toInt * (r : Int) := Int.mul_le_mul_of_nonneg_right b72.1 (by omega)
              omega
            have bm2 : v72.toInt * (r : Int) ≤ 2147483648 * 20 := by
              have h1 : v72.toInt * (r : Int) ≤ 2147483648 * (r : Int) := Int.mul_le_mul_of_nonneg_right (by omega) (by omega)
              omega
            have m0 : (v72.toInt64 * (nI r).toInt64).toInt = v72.toInt * (r : Int) := by
              rw [Int64.toInt_mul, Int32.toInt_toInt64, r9]
              exact bmod64 (by omega) (by omega)
            rw [l_add (by rw [Int32.toInt_toInt64]; omega) (by rw [Int32.toInt_toInt64]; omega) (by rw [m0]; omega) (by rw [m0]; omega), m0, Int32.toInt_toInt64, hT, hE, emm]
          have qG := q13
          have cG := c3'
          have tG := tt3
          have iG : ∀ j, ah_i h70 (x + 2) j = ah_i h (x + 2) j := fun j => by rw [i2 m3, i2 m2, i2 m1]
          -- all is told: L lamp, T at, E each, minute M in the heap G
          have c1 : (lg_cmp (v26.toInt64 + v72.toInt64 * (nI r).toInt64) (0 : Int64) < 0) ↔ (mm < 0) := by rw [lg_cmp_lt, Int64.lt_iff_toInt_lt, eM]; exact Iff.rfl
          have c3 : (lg_cmp (v26.toInt64 + v72.toInt64 * (nI r).toInt64) (120 : Int64) < 0) ↔ (mm < 120) := by rw [lg_cmp_lt, Int64.lt_iff_toInt_lt, eM]; exact Iff.rfl
          have no : (mm < 0 ∨ 120 ≤ mm) → Q (some (.int (-3))) h70 := by
            intro z
            have er : rwy L mm A = -3 := by unfold rwy; rw [if_pos z]
            have ea1 : rA1 L mm (if cl.1 = 3 then 1 else 0) A = A := by unfold rA1; rw [if_neg (by rw [er]; decide)]
            rw [er, ea1] at hq
            exact hq h70 qG cG
          refine ⟨fun z => no (.inl (c1.mp z)), fun z => ⟨fun z2 => ?_, fun z2 => no (.inr (by have := mt c3.mpr z2; omega))⟩⟩
          have hm0 : 0 ≤ mm := by have := mt c1.mpr z; omega
          have hm1 : mm < 120 := c3.mp z2
          obtain ⟨m, em⟩ : ∃ m : Nat, mm = m := ⟨mm.toNat, by omega⟩
          rw [em] at eM hq
          refine c_part (j := 0) qG.1 tG rfl rfl hk (by omega) ⟨_, rfl, qG.1, tG.1.2.2.1, tG.2.1, tG.1.2.2.2.1, ?_⟩
          rw [iG, show ah_i h (x + 2) (6 * k + 0) = nI cl.1 from o1, l32_of eM (by omega)]
          have fin : ∀ on : Nat, on < 2 → on = (if cl.1 = 3 then 1 else 0) → Mt mX10_tell [.ref 1, .int v13, .int (nI m), .int (nI on)] h70 (ab_qi fun v49 h47 => Sh h47 ∧ ah_k h47 x = 9 ∧ ah_r h47 x 0 = some (x + 1) ∧ ah_k h47 (x + 1) = 14 ∧ ((v49 = 0 → Q (some (.int v49)) h47) ∧ (¬ v49 = 0 → ((¬ v49 = (-5) → Q (some (.int (-3))) h47) ∧ (v49 = (-5) → Q (some (.int v49)) h47))))) := by
            intro on hon eon
            rw [← eon] at hq
            refine c_tell6 qG.1 cG _ _ _ (fun g2 s2 x2 c2' e2 => ?_)
            have q2 : qFr h70 g2 := ⟨s2, x2, fun a n1 n2 _ _ _ => e2 a n1 n2, fun j _ _ => by rw [(e2 27 (by decide) (by decide)).1], wB_of (e2 27 (by decide) (by decide)).1⟩
            have t2' := tx_q q2 tG
            refine ⟨_, rfl, s2, t2'.1.2.2.1, t2'.2.1, t2'.1.2.2.2.1, ?_⟩
            have q3 := qFr_t qG q2
            rcases tw_rw h10 h24 (A := A) (x1 := v13) (l := L) hL (m := m) (on := on) (by omega) hon with ⟨u1, u2, u3⟩ | ⟨u1, u2, u3, u4⟩ | ⟨u1, u2, u3, u4⟩
            · rw [u3] at c2'
              rw [u2] at hq
              rw [u1]
              (first | refine ⟨fun _ => ?_, fun n_ => absurd (show (0 : Int32) = 0 by rfl) n_⟩ | refine ⟨fun n_ => absurd (show (0 : Int32) = 0 by rfl) n_, fun _ => ?_⟩ | refine ⟨fun y_ => absurd y_ (show (0 : Int32) = 0 by rfl), fun _ => ?_⟩ | refine ⟨fun _ => ?_, fun y_ => absurd y_ (show (0 : Int32) = 0 by rfl)⟩)
              exact hq g2 q3 c2'
            · rw [u3] at c2'
              rw [u2, u4] at hq
              rw [u1]
              (first | refine ⟨fun _ => ?_, fun n_ => absurd (show ¬ (-5 : Int32) = 0 by decide) n_⟩ | refine ⟨fun n_ => absurd (show ¬ (-5 : Int32) = 0 by decide) n_, fun _ => ?_⟩ | refine ⟨fun y_ => absurd y_ (show ¬ (-5 : Int32) = 0 by decide), fun _ => ?_⟩ | refine ⟨fun _ => ?_, fun y_ => absurd y_ (show ¬ (-5 : Int32) = 0 by decide)⟩)
              (first | refine ⟨fun _ => ?_, fun n_ => absurd (show (-5 : Int32) = -5 by rfl) n_⟩ | refine ⟨fun n_ => absurd (show (-5 : Int32) = -5 by rfl) n_, fun _ => ?_⟩ | refine ⟨fun y_ => absurd y_ (show (-5 : Int32) = -5 by rfl), fun _ => ?_⟩ | refine ⟨fun _ => ?_, fun y_ => absurd y_ (show (-5 : Int32) = -5 by rfl)⟩)
              exact hq g2 q3 c2'
            · rw [u3] at c2'
              rw [u2, u4] at hq
              rw [u1]
              (first | refine ⟨fun _ => ?_, fun n_ => absurd (show ¬ (-2 : Int32) = 0 by decide) n_⟩ | refine ⟨fun n_ => absurd (show ¬ (-2 : Int32) = 0 by decide) n_, fun _ => ?_⟩ | refine ⟨fun y_ => absurd y_ (show ¬ (-2 : Int32) = 0 by decide), fun _ => ?_⟩ | refine ⟨fun _ => ?_, fun y_ => absurd y_ (show ¬ (-2 : Int32) = 0 by decide)⟩)
              (first | refine ⟨fun _ => ?_, fun n_ => absurd (show ¬ (-2 : Int32) = -5 by decide) n_⟩ | refine ⟨fun n_ => absurd (show ¬ (-2 : Int32) = -5 by decide) n_, fun _ => ?_⟩ | refine ⟨fun y_ => absurd y_ (show ¬ (-2 : Int32) = -5 by decide), fun _ => ?_⟩ | refine ⟨fun _ => ?_, fun y_ => absurd y_ (show ¬ (-2 : Int32) = -5 by decide)⟩)
              exact hq g2 q3 c2'
          by_cases v3 : cl.1 = 3
          · (first | refine ⟨fun _ => ?_, fun n_ => absurd (show nI cl.1 = 3 by rw [v3]; rfl) n_⟩ | refine ⟨fun n_ => absurd (show nI cl.1 = 3 by rw [v3]; rfl) n_, fun _ => ?_⟩ | refine ⟨fun y_ => absurd y_ (show nI cl.1 = 3 by rw [v3]; rfl), fun _ => ?_⟩ | refine ⟨fun _ => ?_, fun y_ => absurd y_ (show nI cl.1 = 3 by rw [v3]; rfl)⟩)
            exact fin 1 (by omega) (by rw [if_pos v3])
          · (first | refine ⟨fun _ => ?_, fun n_ => absurd (show ¬ nI cl.1 = 3 by rw [n_3, nI_eq (by omega) (by omega)]; exact v3) n_⟩ | refine ⟨fun n_ => absurd (show ¬ nI cl.1 = 3 by rw [n_3, nI_eq (by omega) (by omega)]; exact v3) n_, fun _ => ?_⟩ | refine ⟨fun y_ => absurd y_ (show ¬ nI cl.1 = 3 by rw [n_3, nI_eq (by omega) (by omega)]; exact v3), fun _ => ?_⟩ | refine ⟨fun _ => ?_, fun y_ => absurd y_ (show ¬ nI cl.1 = 3 by rw [n_3, nI_eq (by omega) (by omega)]; exact v3)⟩)
            exact fin 0 (by omega) (by rw [if_neg v3])
end CR
