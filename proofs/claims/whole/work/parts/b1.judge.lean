/-! ===== judge on both sides ===== -/
section JU
variable {KX : ah_T → Prop} {RX WX SX : (Nat → Nat) → ah_T → Prop} {A A' : Nat → Nat} {h h' h2 g : ah_T} {g0 n : Nat}
def cEr (A : Nat → Nat) (h : ah_T) : Prop := ah_i h 10 1 = nI 3 ∧ ah_i h 10 3 = nI (A 249) ∧ wfE A ∧ ∀ j, j < 3 * A 249 → ah_i h 11 j = nI (A (200 + j))
theorem cEr_of (wf : WF A) (tn : Tn TXm A h 1 84 0) : cEr A h := by
  obtain ⟨_, _, _, _, ⟨q1, q2, q3, q4, q5, q6⟩, _⟩ := tn
  exact ⟨q2, q3, wf.2.2.2.2.1, fun j hj => (q6 j hj).1⟩
theorem cEr_fr (e : ∀ a, (a = 10 ∨ a = 11) → ∀ j, ah_i g a j = ah_i h a j) (t : cEr A h) : cEr A g := ⟨by rw [e 10 (by omega)]; exact t.1, by rw [e 10 (by omega)]; exact t.2.1, t.2.2.1, fun j hj => by rw [e 11 (by omega)]; exact t.2.2.2 j hj⟩
theorem e_get {Q : Option Value → ah_T → Prop} (hs : Sh h) (m : cEr A h) {l k : Nat} {x1 x2 : Int32} (e1 : x1 = nI l) (e2 : x2 = nI k) (hl : l < A 249) (hk : k < 3) (hq : Q (some (.int (nI (A (200 + 3 * l + k))))) h) : Mt mX7_get [.ref 10, .int x1, .int x2] h Q := by
  have w6 := m.2.2.1.1
  refine c_getW hs (t := 10) (n := A 249) (r := l) (k := k) (by omega) e1 e2 m.1 m.2.1 (by show 3 * A 249 ≤ 18; omega) hl hk ?_
  rw [m.2.2.2 (3 * l + k) (by omega), ← Nat.add_assoc]
  exact hq
theorem lies_n {a b m : Nat} (ha : a < 2 ^ 31) (hb : b < 2 ^ 31) (hm : m < 2 ^ 31) : f_X12_lies (nI m) (nI a) (nI b) = 0 ↔ ¬ (a ≤ m ∧ m ≤ b) := by
  unfold f_X12_lies
  by_cases c1 : a ≤ m
  · by_cases c2 : m ≤ b
    · have y1 := nI_le c1 hm
      have y2 := nI_le c2 hb
      have : ¬ nI m < nI a := by rw [nI_ltI hm ha]; omega
      have : ¬ nI b < nI m := by rw [nI_ltI hb hm]; omega
      grind
    · have : ¬ nI m ≤ nI b := nI_ge (by omega) hm
      have : nI b < nI m := nI_lt (by omega) hm
      grind
  · have : ¬ nI a ≤ nI m := nI_ge (by omega) ha
    have : nI m < nI a := nI_lt (by omega) ha
    grind
/-- the answer -/
noncomputable def jV (A : Nat → Nat) (w : Nat) : Int32 := if w = 0 then (jM A 120).1 else if w = 1 then (jM A 120).2.1 else nI (cb (bt (jM A 120).2.2) 20)
theorem jM_s (m : Nat) : jM A (m + 1) = jE A m (A 249) (jM A m) := rfl
theorem jE_s (m e : Nat) (s : J3) : jE A m (e + 1) s = jU (dkB A m e) m e (jE A m e s) := rfl
theorem c_dark {Q : Option Value → ah_T → Prop} (hs : Sh h) (c : cor g0 A h) (er : cEr A h) (i9 : ah_i h 54 9 = 1) (r : chR A h) (l : chL A h) {w : Nat} (hw : w < 3) (hq : ∀ g, chF h g → cor g0 A g → ah_i g 54 9 = 1 → chR A g → chL A g → Q (some (.int (jV A w))) g) : Mt mX0_darkErrands [.ref 54, .int (nI w)] h Q := by
  have w6 := er.2.2.1.1
  have l10 : ∀ (q m : Nat) (g : ah_T), m + q = 120 → chF h g → cor g0 A g → ah_i g 54 9 = 1 → chR A g → chL A g → Wp mX0_darkErrands Q 0 0 10 [some (.ref 54), some (.int (nI w)), some (.int (jM A m).1), some (.int (jM A m).2.1), some (.int (jM A m).2.2), some (.int (nI m)), none] [] g := by
    intro q
    induction q with
    | zero =>
      intro m g hm f cg ig rg lg
      have e9 : m = 120 := by omega
      subst e9
      refine T_X0_darkErrands_10 f.1 _ _ _ _ _ ?_
      (first | refine ⟨fun _ => ?_, fun n_ => absurd (show 120 ≤ nI 120 from nI_le (a := 120) (by omega) (by omega)) n_⟩ | refine ⟨fun n_ => absurd (show 120 ≤ nI 120 from nI_le (a := 120) (by omega) (by omega)) n_, fun _ => ?_⟩ | refine ⟨fun y_ => absurd y_ (show 120 ≤ nI 120 from nI_le (a := 120) (by omega) (by omega)), fun _ => ?_⟩ | refine ⟨fun _ => ?_, fun y_ => absurd y_ (show 120 ≤ nI 120 from nI_le (a := 120) (by omega) (by omega))⟩)
      have q1 := hq g f cg ig rg lg
      rcases (show w = 0 ∨ w = 1 ∨ w = 2 by omega) with rfl | rfl | rfl
      · (first | refine ⟨fun _ => ?_, fun n_ => absurd (show nI 0 = 0 from rfl) n_⟩ | refine ⟨fun n_ => absurd (show nI 0 = 0 from rfl) n_, fun _ => ?_⟩ | refine ⟨fun y_ => absurd y_ (show nI 0 = 0 from rfl), fun _ => ?_⟩ | refine ⟨fun _ => ?_, fun y_ => absurd y_ (show nI 0 = 0 from rfl)⟩)
        exact q1
      · (first | refine ⟨fun _ => ?_, fun n_ => absurd (show ¬ nI 1 = 0 by decide) n_⟩ | refine ⟨fun n_ => absurd (show ¬ nI 1 = 0 by decide) n_, fun _ => ?_⟩ | refine ⟨fun y_ => absurd y_ (show ¬ nI 1 = 0 by decide), fun _ => ?_⟩ | refine ⟨fun _ => ?_, fun y_ => absurd y_ (show ¬ nI 1 = 0 by decide)⟩)
        (first | refine ⟨fun _ => ?_, fun n_ => absurd (show nI 1 = 1 from rfl) n_⟩ | refine ⟨fun n_ => absurd (show nI 1 = 1 from rfl) n_, fun _ => ?_⟩ | refine ⟨fun y_ => absurd y_ (show nI 1 = 1 from rfl), fun _ => ?_⟩ | refine ⟨fun _ => ?_, fun y_ => absurd y_ (show nI 1 = 1 from rfl)⟩)
        exact q1
      · (first | refine ⟨fun _ => ?_, fun n_ => absurd (show ¬ nI 2 = 0 by decide) n_⟩ | refine ⟨fun n_ => absurd (show ¬ nI 2 = 0 by decide) n_, fun _ => ?_⟩ | refine ⟨fun y_ => absurd y_ (show ¬ nI 2 = 0 by decide), fun _ => ?_⟩ | refine ⟨fun _ => ?_, fun y_ => absurd y_ (show ¬ nI 2 = 0 by decide)⟩)
        (first | refine ⟨fun _ => ?_, fun n_ => absurd (show ¬ nI 2 = 1 by decide) n_⟩ | refine ⟨fun n_ => absurd (show ¬ nI 2 = 1 by decide) n_, fun _ => ?_⟩ | refine ⟨fun y_ => absurd y_ (show ¬ nI 2 = 1 by decide), fun _ => ?_⟩ | refine ⟨fun _ => ?_, fun y_ => absurd y_ (show ¬ nI 2 = 1 by decide)⟩)
        obtain ⟨j, hj, ej⟩ := small_b (jM_b w6 120)
        have bc := bc_10 j (by omega)
        rw [← ej] at bc
        rw [bc]
        exact q1
    | succ q ih =>
      intro m g hm f cg ig rg lg
      have hm2 : m < 120 := by omega
      refine T_X0_darkErrands_10 f.1 _ _ _ _ _ ?_
      (first | refine ⟨fun _ => ?_, fun n_ => absurd (show ¬ 120 ≤ nI m from nI_ge (b := 120) (by omega) (by omega)) n_⟩ | refine ⟨fun n_ => absurd (show ¬ 120 ≤ nI m from nI_ge (b := 120) (by omega) (by omega)) n_, fun _ => ?_⟩ | refine ⟨fun y_ => absurd y_ (show ¬ 120 ≤ nI m from nI_ge (b := 120) (by omega) (by omega)), fun _ => ?_⟩ | refine ⟨fun _ => ?_, fun y_ => absurd y_ (show ¬ 120 ≤ nI m from nI_ge (b := 120) (by omega) (by omega))⟩)
      have l20 : ∀ (q2 e : Nat) (g : ah_T), e + q2 = A 249 → chF h g → cor g0 A g → ah_i g 54 9 = 1 → chR A g → chL A g → Wp mX0_darkErrands Q 0 0 20 [some (.ref 54), some (.int (nI w)), some (.int (jE A m e (jM A m)).1), some (.int (jE A m e (jM A m)).2.1), some (.int (jE A m e (jM A m)).2.2), some (.int (nI m)), some (.int (nI e))] [] g := by
        intro q2
        induction q2 with
        | zero =>
          intro e g he f cg ig rg lg
          have e9 : e = A 249 := by omega
          subst e9
          refine T_X0_darkErrands_20 f.1 _ _ _ _ _ _ ?_
          rw [(f.2.2.1 10 (by omega)).1, er.2.1]
          (first | refine ⟨fun _ => ?_, fun n_ => absurd (show nI (A 249) ≤ nI (A 249) from nI_le (Nat.le_refl _) (by omega)) n_⟩ | refine ⟨fun n_ => absurd (show nI (A 249) ≤ nI (A 249) from nI_le (Nat.le_refl _) (by omega)) n_, fun _ => ?_⟩ | refine ⟨fun y_ => absurd y_ (show nI (A 249) ≤ nI (A 249) from nI_le (Nat.le_refl _) (by omega)), fun _ => ?_⟩ | refine ⟨fun _ => ?_, fun y_ => absurd y_ (show nI (A 249) ≤ nI (A 249) from nI_le (Nat.le_refl _) (by omega))⟩)
          rw [nI_1]
          exact ih (m + 1) g (by omega) f cg ig rg lg
        | succ q2 ih2 =>
          intro e g he f cg ig rg lg
          have he2 : e < A 249 := by omega
          have erg := cEr_fr (fun a ha => (f.2.2.1 a (by omega)).1) er
          obtain ⟨v1, v2, v3⟩ := er.2.2.1.2 e he2
          have b1 : A (201 + 3 * e) < 120 := by omega
          refine T_X0_darkErrands_20 f.1 _ _ _ _ _ _ ?_
          rw [erg.2.1]
          (first | refine ⟨fun _ => ?_, fun n_ => absurd (show ¬ nI (A 249) ≤ nI e from nI_ge (by omega) (by omega)) n_⟩ | refine ⟨fun n_ => absurd (show ¬ nI (A 249) ≤ nI e from nI_ge (by omega) (by omega)) n_, fun _ => ?_⟩ | refine ⟨fun y_ => absurd y_ (show ¬ nI (A 249) ≤ nI e from nI_ge (by omega) (by omega)), fun _ => ?_⟩ | refine ⟨fun _ => ?_, fun y_ => absurd y_ (show ¬ nI (A 249) ≤ nI e from nI_ge (by omega) (by omega))⟩)
          have skip : ∀ g1, chF h g1 → cor g0 A g1 → ah_i g1 54 9 = 1 → chR A g1 → chL A g1 → dkB A m e = false → Wp mX0_darkErrands Q 0 0 20 [some (.ref 54), some (.int (nI w)), some (.int (jE A m e (jM A m)).1), some (.int (jE A m e (jM A m)).2.1), some (.int (jE A m e (jM A m)).2.2), some (.int (nI m)), some (.int (nI e + 1))] [] g1 := by
            intro g1 f1 c1 i1 r1 l1 dk
            have := ih2 (e + 1) g1 (by omega) f1 c1 i1 r1 l1
            rw [jE_s, dk] at this
            rw [nI_1]
            exact this
          refine e_get f.1 erg rfl (k := 1) rfl he2 (by omega) ⟨_, rfl, f.1, ?_⟩
          rw [show 200 + 3 * e + 1 = 201 + 3 * e by omega, nI_ltI (by omega) (by omega)]
          refine ⟨fun z => skip g f cg ig rg lg ?_, fun z => ?_⟩
          · unfold dkB
            rw [decide_eq_false (fun y => by omega), Bool.false_and]
          refine e_get f.1 erg rfl (k := 2) rfl he2 (by omega) ⟨_, rfl, f.1, ?_⟩
          rw [show 200 + 3 * e + 2 = 202 + 3 * e by omega, nI_ltI (by omega) (by omega)]
          refine ⟨fun z => skip g f cg ig rg lg ?_, fun z2 => ?_⟩
          · unfold dkB
            rw [decide_eq_false (fun y => by omega), Bool.false_and]
          refine c_lightAt f.1 cg ig rg lg rfl hm2 (fun g1 v f1 c1 i1 r1 l1 bv => ⟨_, rfl, f1.1, ?_⟩)
          have fg1 := chF_t f f1
          have erg1 := cEr_fr (fun a ha => (fg1.2.2.1 a (by omega)).1) er
          refine e_get f1.1 erg1 rfl (k := 0) rfl he2 (by omega) ⟨_, rfl, f1.1, ?_⟩
          rw [show 200 + 3 * e + 0 = 200 + 3 * e from rfl, b_bit _ _ (by omega)]
          have bb := bv (A (200 + 3 * e)) (by omega)
          refine ⟨fun y => ?_, fun y => skip g1 fg1 c1 i1 r1 l1 ?_⟩
          · have dk : dkB A m e = true := by
              unfold dkB
              rw [decide_eq_true ⟨by omega, by omega⟩, Bool.true_and, Bool.not_eq_true']
              cases e' : brP A (nd0 A) (litM A (nd0 A) m) m (A (200 + 3 * e))
              · rfl
              · rw [bb.mpr ⟨v1, e'⟩] at y; exact absurd y (by decide)
            have := ih2 (e + 1) g1 (by omega) fg1 c1 i1 r1 l1
            rw [jE_s, dk] at this
            unfold jU at this
            rw [if_pos rfl] at this
            rw [nI_1]
            refine ⟨fun z => ?_, fun z => ?_⟩
            · rw [if_neg z, if_neg z] at this
              exact this
            · rw [if_pos z, if_pos z] at this
              exact this
          · unfold dkB
            have yt : brP A (nd0 A) (litM A (nd0 A) m) m (A (200 + 3 * e)) = true := by
              cases e' : bt v (A (200 + 3 * e))
              · exact absurd e' y
              · exact (bb.mp e').2
            rw [yt, Bool.not_true, Bool.and_false]
      exact l20 (A 249) 0 g (by omega) f cg ig rg lg
  exact T_X0_darkErrands hs _ (l10 120 0 h (by omega) (chF_r hs) c i9 r l)
theorem m_judgeL {Q : Option Value → ah_T → Prop} (hs : Sh h) (b : mBa A (nd0 A) h) (nt : mNt A (nd0 A) 120 h) (we : wfE A) (e249 : ah_i h 84 249 = nI (A 249)) (er : ∀ j, j < 3 * A 249 → ah_i h 84 (200 + j) = nI (A (200 + j))) {w : Nat} (hw : w < 3) (hq : ∀ g, knF h g → mBa A (nd0 A) g → Q (some (.int (jV A w))) g) : Wp mX12_judge Q 0 0 25 [some (.ref 82), some (.int (nI w)), some (.int (-1)), some (.int (-1)), some (.int 0), some (.int 0), none, none] [] h := by
  have w6 := we.1
  have t249 : Int32.toNatClampNeg 249 = 249 := rfl
  have l25 : ∀ (q m : Nat) (g : ah_T), m + q = 120 → knF h g → mBa A (nd0 A) g → Wp mX12_judge Q 0 0 25 [some (.ref 82), some (.int (nI w)), some (.int (jM A m).1), some (.int (jM A m).2.1), some (.int (jM A m).2.2), some (.int (nI m)), none, none] [] g := by
    intro q
    induction q with
    | zero =>
      intro m g hm f bg
      have e9 : m = 120 := by omega
      subst e9
      refine T_X12_judge_25 f.1 _ _ _ _ _ ?_
      (first | refine ⟨fun _ => ?_, fun n_ => absurd (show 120 ≤ nI 120 from nI_le (a := 120) (by omega) (by omega)) n_⟩ | refine ⟨fun n_ => absurd (show 120 ≤ nI 120 from nI_le (a := 120) (by omega) (by omega)) n_, fun _ => ?_⟩ | refine ⟨fun y_ => absurd y_ (show 120 ≤ nI 120 from nI_le (a := 120) (by omega) (by omega)), fun _ => ?_⟩ | refine ⟨fun _ => ?_, fun y_ => absurd y_ (show 120 ≤ nI 120 from nI_le (a := 120) (by omega) (by omega))⟩)
      have q1 := hq g f bg
      rcases (show w = 0 ∨ w = 1 ∨ w = 2 by omega) with rfl | rfl | rfl
      · (first | refine ⟨fun _ => ?_, fun n_ => absurd (show nI 0 = 0 from rfl) n_⟩ | refine ⟨fun n_ => absurd (show nI 0 = 0 from rfl) n_, fun _ => ?_⟩ | refine ⟨fun y_ => absurd y_ (show nI 0 = 0 from rfl), fun _ => ?_⟩ | refine ⟨fun _ => ?_, fun y_ => absurd y_ (show nI 0 = 0 from rfl)⟩)
        exact q1
      · (first | refine ⟨fun _ => ?_, fun n_ => absurd (show ¬ nI 1 = 0 by decide) n_⟩ | refine ⟨fun n_ => absurd (show ¬ nI 1 = 0 by decide) n_, fun _ => ?_⟩ | refine ⟨fun y_ => absurd y_ (show ¬ nI 1 = 0 by decide), fun _ => ?_⟩ | refine ⟨fun _ => ?_, fun y_ => absurd y_ (show ¬ nI 1 = 0 by decide)⟩)
        (first | refine ⟨fun _ => ?_, fun n_ => absurd (show nI 1 = 1 from rfl) n_⟩ | refine ⟨fun n_ => absurd (show nI 1 = 1 from rfl) n_, fun _ => ?_⟩ | refine ⟨fun y_ => absurd y_ (show nI 1 = 1 from rfl), fun _ => ?_⟩ | refine ⟨fun _ => ?_, fun y_ => absurd y_ (show nI 1 = 1 from rfl)⟩)
        exact q1
      · (first | refine ⟨fun _ => ?_, fun n_ => absurd (show ¬ nI 2 = 0 by decide) n_⟩ | refine ⟨fun n_ => absurd (show ¬ nI 2 = 0 by decide) n_, fun _ => ?_⟩ | refine ⟨fun y_ => absurd y_ (show ¬ nI 2 = 0 by decide), fun _ => ?_⟩ | refine ⟨fun _ => ?_, fun y_ => absurd y_ (show ¬ nI 2 = 0 by decide)⟩)
        (first | refine ⟨fun _ => ?_, fun n_ => absurd (show ¬ nI 2 = 1 by decide) n_⟩ | refine ⟨fun n_ => absurd (show ¬ nI 2 = 1 by decide) n_, fun _ => ?_⟩ | refine ⟨fun y_ => absurd y_ (show ¬ nI 2 = 1 by decide), fun _ => ?_⟩ | refine ⟨fun _ => ?_, fun y_ => absurd y_ (show ¬ nI 2 = 1 by decide)⟩)
        exact m_ones f.1 _ ⟨_, rfl, f.1, q1⟩
    | succ q ih =>
      intro m g hm f bg
      have hm2 : m < 120 := by omega
      refine T_X12_judge_25 f.1 _ _ _ _ _ ?_
      (first | refine ⟨fun _ => ?_, fun n_ => absurd (show ¬ 120 ≤ nI m from nI_ge (b := 120) (by omega) (by omega)) n_⟩ | refine ⟨fun n_ => absurd (show ¬ 120 ≤ nI m from nI_ge (b := 120) (by omega) (by omega)) n_, fun _ => ?_⟩ | refine ⟨fun y_ => absurd y_ (show ¬ 120 ≤ nI m from nI_ge (b := 120) (by omega) (by omega)), fun _ => ?_⟩ | refine ⟨fun _ => ?_, fun y_ => absurd y_ (show ¬ 120 ≤ nI m from nI_ge (b := 120) (by omega) (by omega))⟩)
      have ntg : mNt A (nd0 A) 120 g := mNt_fr (fun a ha => (f.2.2.1 a (by omega) (by omega) (by omega) (by omega) (by omega)).1) nt
      refine m_brightIn f.1 bg rfl hm2 hm2 ntg (fun g1 v f1 b1 bv => ⟨_, rfl, f1.1, ?_⟩)
      have fg1 := knF_t f f1
      have e84 : ∀ j, ah_i g1 84 j = ah_i h 84 j := (fg1.2.2.1 84 (by decide) (by decide) (by decide) (by decide) (by decide)).1
      have l43 : ∀ (q2 e : Nat), e + q2 = A 249 → Wp mX12_judge Q 0 0 43 [some (.ref 82), some (.int (nI w)), some (.int (jE A m e (jM A m)).1), some (.int (jE A m e (jM A m)).2.1), some (.int (jE A m e (jM A m)).2.2), some (.int (nI m)), some (.int v), some (.int (nI e))] [] g1 := by
        intro q2
        induction q2 with
        | zero =>
          intro e he
          have e9 : e = A 249 := by omega
          subst e9
          refine T_X12_judge_43 f1.1 _ _ _ _ _ _ _ ?_
          rw [t249, e84, e249]
          (first | refine ⟨fun _ => ?_, fun n_ => absurd (show nI (A 249) ≤ nI (A 249) from nI_le (Nat.le_refl _) (by omega)) n_⟩ | refine ⟨fun n_ => absurd (show nI (A 249) ≤ nI (A 249) from nI_le (Nat.le_refl _) (by omega)) n_, fun _ => ?_⟩ | refine ⟨fun y_ => absurd y_ (show nI (A 249) ≤ nI (A 249) from nI_le (Nat.le_refl _) (by omega)), fun _ => ?_⟩ | refine ⟨fun _ => ?_, fun y_ => absurd y_ (show nI (A 249) ≤ nI (A 249) from nI_le (Nat.le_refl _) (by omega))⟩)
          rw [nI_1]
          exact ih (m + 1) g1 (by omega) fg1 b1
        | succ q2 ih2 =>
          intro e he
          have he2 : e < A 249 := by omega
          obtain ⟨v1, v2, v3⟩ := we.2 e he2
          have y0 := er (3 * e) (by omega)
          have y1 := er (3 * e + 1) (by omega)
          have y2 := er (3 * e + 2) (by omega)
          rw [show 200 + (3 * e + 1) = 201 + 3 * e by omega] at y1
          rw [show 200 + (3 * e + 2) = 202 + 3 * e by omega] at y2
          have c0 : (200 : Int32) + 3 * nI e = nI (200 + 3 * e) := by rw [n_200, n_3, nI_mul, nI_add]
          have c1 : nI (200 + 3 * e) + 1 = nI (201 + 3 * e) := (nI_add _ 1).trans (congrArg nI (by omega))
          have c2 : nI (200 + 3 * e) + 2 = nI (202 + 3 * e) := (nI_add _ 2).trans (congrArg nI (by omega))
          have vq : ∀ j, j < 5860 → vp_in (nI j) 5860 := fun j hj => (vp_nI (by omega)).mpr hj
          have bb := bv (A (200 + 3 * e)) (by omega)
          have skip : dkB A m e = false → Wp mX12_judge Q 0 0 43 [some (.ref 82), some (.int (nI w)), some (.int (jE A m e (jM A m)).1), some (.int (jE A m e (jM A m)).2.1), some (.int (jE A m e (jM A m)).2.2), some (.int (nI m)), some (.int v), some (.int (nI (e + 1)))] [] g1 := by
            intro dk
            have := ih2 (e + 1) (by omega)
            rw [jE_s, dk] at this
            exact this
          refine T_X12_judge_43 f1.1 _ _ _ _ _ _ _ ?_
          rw [t249, e84 249, e249]
          (first | refine ⟨fun _ => ?_, fun n_ => absurd (show ¬ nI (A 249) ≤ nI e from nI_ge (by omega) (by omega)) n_⟩ | refine ⟨fun n_ => absurd (show ¬ nI (A 249) ≤ nI e from nI_ge (by omega) (by omega)) n_, fun _ => ?_⟩ | refine ⟨fun y_ => absurd y_ (show ¬ nI (A 249) ≤ nI e from nI_ge (by omega) (by omega)), fun _ => ?_⟩ | refine ⟨fun _ => ?_, fun y_ => absurd y_ (show ¬ nI (A 249) ≤ nI e from nI_ge (by omega) (by omega))⟩)
          rw [c0, c1, c2, show nI e + 1 = nI (e + 1) from nI_1 e, nI_clamp (show 200 + 3 * e < 2 ^ 31 by omega), nI_clamp (show 201 + 3 * e < 2 ^ 31 by omega), nI_clamp (show 202 + 3 * e < 2 ^ 31 by omega), e84 (200 + 3 * e), e84 (201 + 3 * e), e84 (202 + 3 * e), y0, y1, y2, n84 f1.1, lies_n (by omega) (by omega) (by omega), isIn_bt v (by omega)]
          refine ⟨vq _ (by omega), vq _ (by omega), fun z => skip ?_, fun z => ⟨vq _ (by omega), fun y => ?_, fun y => skip ?_⟩⟩
          · unfold dkB
            rw [decide_eq_false z, Bool.false_and]
          · have z' : A (201 + 3 * e) ≤ m ∧ m ≤ A (202 + 3 * e) := Classical.byContradiction z
            have dk : dkB A m e = true := by
              unfold dkB
              rw [decide_eq_true z', Bool.true_and, Bool.not_eq_true']
              cases e' : brP A (nd0 A) (litM A (nd0 A) m) m (A (200 + 3 * e))
              · rfl
              · rw [bb.mpr ⟨v1, e'⟩] at y; exact absurd y (by decide)
            have := ih2 (e + 1) (by omega)
            rw [jE_s, dk] at this
            unfold jU at this
            rw [if_pos rfl] at this
            refine ⟨fun z => ⟨fun _ => ?_, fun z2 => absurd z2 z⟩, fun z => ⟨fun z2 => absurd z z2, fun _ => ?_⟩⟩
            · rw [if_neg z, if_neg z] at this
              exact this
            · rw [if_pos z, if_pos z] at this
              exact this
          · unfold dkB
            have yt : brP A (nd0 A) (litM A (nd0 A) m) m (A (200 + 3 * e)) = true := by
              cases e' : bt v (A (200 + 3 * e))
              · exact absurd e' y
              · exact (bb.mp e').2
            rw [yt, Bool.not_true, Bool.and_false]
      exact l43 (A 249) 0 (by omega)
  exact l25 120 0 h (by omega) (knF_r hs) b
theorem rel_judge (X : XP KX RX WX) (hW : hWp KX RX) (hS : SXp SX) (a : Int32) : lw_RC (Inv TXm (CCg KX RX WX) (CMg SX) (n + 1)) (Inv TXm (CCg KX RX WX) (CMg SX) n) mX11_judge mX12_judge [.int a] := by
  intro h hI
  obtain ⟨hs, A, p⟩ := pre_of hI
  refine T_X11_judge hs a ?_
  by_cases c1 : f_X11_isIn a 3 = 0
  · (first | refine ⟨fun _ => ?_, fun n_ => absurd (c1) n_⟩ | refine ⟨fun n_ => absurd (c1) n_, fun _ => ?_⟩ | refine ⟨fun y_ => absurd y_ (c1), fun _ => ?_⟩ | refine ⟨fun _ => ?_, fun y_ => absurd y_ (c1)⟩)
    refine ⟨_, rfl, hs, T_X12_judge hs a ?_⟩
    simp only [q_three]
    (first | refine ⟨fun _ => ?_, fun n_ => absurd (c1) n_⟩ | refine ⟨fun n_ => absurd (c1) n_, fun _ => ?_⟩ | refine ⟨fun y_ => absurd y_ (c1), fun _ => ?_⟩ | refine ⟨fun _ => ?_, fun y_ => absurd y_ (c1)⟩)
    exact ⟨_, rfl, rfl, inv_less hs p⟩
  (first | refine ⟨fun _ => ?_, fun n_ => absurd (c1) n_⟩ | refine ⟨fun n_ => absurd (c1) n_, fun _ => ?_⟩ | refine ⟨fun y_ => absurd y_ (c1), fun _ => ?_⟩ | refine ⟨fun _ => ?_, fun y_ => absurd y_ (c1)⟩)
  obtain ⟨w, hw, rfl⟩ := q_isn (n := 3) (by decide) c1
  refine lr hs X hS p (fun h6 g' s6 p6 lk6 i9 r6 l6 pq => ?_)
  have p6' := p6
  obtain ⟨⟨B0, B1, d, D, wf, tn, _⟩, cc, cm⟩ := p6'
  refine c_dark s6 lk6.1 (cEr_of wf tn) i9 r6 l6 hw (fun h7 f7 c7 i7 r7 l7 => ⟨_, rfl, f7.1, ⟨_, rfl, f7.1, T_X12_judge f7.1 _ ?_⟩⟩)
  simp only [q_three]
  (first | refine ⟨fun _ => ?_, fun n_ => absurd (c1) n_⟩ | refine ⟨fun n_ => absurd (c1) n_, fun _ => ?_⟩ | refine ⟨fun y_ => absurd y_ (c1), fun _ => ?_⟩ | refine ⟨fun _ => ?_, fun y_ => absurd y_ (c1)⟩)
  have e0 := (f7.2.2.1 0 (by omega)).1
  have p7 := pq h7 (loF_ch f7) (lkO_ch X f7 c7 (.inr ⟨i7, r7, l7⟩) ⟨e0 18, e0 19⟩ lk6)
  have p7' := p7
  obtain ⟨⟨B0', B1', d', D', wf', tn', _⟩, cc', cm'⟩ := p7'
  refine md_night f7.1 X hW hS p7 (fun h8 s8 f8 b8 nt fin => ?_)
  have e84 := (f8.2.2.1 84 (by omega) (by omega) (by omega)).1
  obtain ⟨_, _, _, _, ⟨q1, q2, q3, q4, q5, q6⟩, _⟩ := tn'
  simp only [Nat.zero_add] at q4 q6
  exact m_judgeL s8 b8 nt wf'.2.2.2.2.1 (by rw [e84]; exact q4) (fun j hj => by rw [e84]; exact (q6 j hj).2.1) hw (fun g fg bg => ⟨_, rfl, rfl, fin g fg bg⟩)
end JU
