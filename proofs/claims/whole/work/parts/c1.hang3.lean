/-! ===== to hang: the class tries rows ===== -/
def hgV (s k w m : Nat) : Prop := 0 < s ∧ s < 4096 ∧ hN s ≤ 6 ∧ 0 < k ∧ k < 64 ∧ hN k ≤ 3 ∧ w < 4096 ∧ m < 120
def hgK (s k w m : Nat) (h : ah_T) : Prop := ah_i h 76 0 = nI s ∧ ah_i h 76 1 = nI k ∧ ah_i h 76 2 = nI w ∧ ah_i h 76 3 = nI m
/-- what is found till a row -/
def hgR (A : Nat → Nat) (s k w m r : Nat) (h : ah_T) : Prop := ah_i h 74 0 = nI (hF A s k w m r).1 ∧ ah_i h 74 1 = nI (hF A s k w m r).2.1 ∧ ((hF A s k w m r).2.1 ≠ 0 → ∀ i, i < hN s → ah_i h 75 i = nI (hkd s k (hF A s k w m r).2.2 i))
def hgX (A : Nat → Nat) (h : ah_T) : Prop := ah_i h 76 0 = -1 ∨ ∃ s k w m, hgV s k w m ∧ hgK s k w m h ∧ hgR A s k w m (hC k ^ hN s) h
section HL
variable {A : Nat → Nat} {h g u : ah_T} {s k w m r i j a b n c g0 : Nat}
theorem hgX_fr (q : ∀ a j, Chg a j → ah_i g a j = ah_i h a j) (l : hgX A h) : hgX A g := by
  have e76 := fun j => q 76 j (.inr (.inr rfl))
  have e75 := fun j => q 75 j (.inr (.inl rfl))
  have e0 := q 74 0 (.inl ⟨rfl, .inl rfl⟩)
  have e1 := q 74 1 (.inl ⟨rfl, .inr rfl⟩)
  unfold hgX hgK hgR at l ⊢
  simp only [e76, e75, e0, e1]
  exact l
theorem hN_pos (hs : 0 < s) (hs2 : s < 2 ^ 20) : 0 < hN s := by
  by_cases z : 0 < hN s
  · exact z
  · exfalso
    have e : s = 0 := set_ext (n := 20) hs2 (by decide) (fun i hi => by
      rw [Nat.zero_testBit]
      cases y : s.testBit i
      · rfl
      · have := cb_mn (sS s) (show i + 1 ≤ 20 by omega)
        rw [cb_t1 (f := sS s) y] at this
        have q : cb (sS s) 20 = hN s := rfl
        omega)
    omega
theorem pw_46 (hc : c ≤ 4) (hn : n ≤ 6) : c ^ n ≤ 4096 := Nat.le_trans (Nat.pow_le_pow_left hc n) (Nat.pow_le_pow_right (n := 4) (by decide) hn)
theorem pw_po (hc : 0 < c) (n : Nat) : 0 < c ^ n := Nat.pow_pos hc
theorem pw_dv (hc : 0 < c) (n : Nat) : c ^ (n + 1) / c = c ^ n := by rw [Nat.pow_succ, Nat.mul_div_cancel _ hc]
theorem hch_lt (s k r i : Nat) : hch s k r i < hC k := Nat.mod_lt _ (by show 0 < cb (sS k) 20 + 1; omega)
theorem hC_e (k : Nat) : hC k = hN k + 1 := rfl
theorem and_0 {x y : Int32} : (x &&& y) = 0 ↔ ∀ i, i < 32 → bt x i = true → bt y i = false := by
  constructor
  · intro e i hi hx
    cases z : bt y i
    · rfl
    · have : bt (x &&& y) i = true := by rw [b_and, hx, z]; rfl
      rw [e, b_0] at this
      exact absurd this (by decide)
  · intro q
    apply b_ext
    intro i hi
    rw [b_and, b_0]
    cases z : bt x i
    · rfl
    · rw [q i hi z]; rfl
theorem hkd_y (h : hch s k r i ≠ 0) : hkd s k r i = nth (sS k) (hch s k r i - 1) := if_neg h
theorem c_lampsOf {Q : Option Value → ah_T → Prop} {x1 x2 x3 x4 : Int32} (hs : Sh h) (V : hgV s k w m) (wg : wgO A s k m h) (e1 : x1 = nI r) (e2 : x2 = nI (hC k ^ hN s)) (e3 : x3 = nI (hC k)) (e4 : x4 = nI w) (hr : r < hC k ^ hN s) (hq1 : okH A s k w m r → Q (some (.int (nI (hcn s k r)))) h) (hq2 : ¬ okH A s k w m r → Q (some (.int (-1))) h) : Mt mX4_lampsOf [.ref 74, .int x1, .int x2, .int x3, .int x4] h Q := by
  subst e1 e2 e3 e4
  obtain ⟨v1, v2, v3, v4, v5, v6, v7, v8⟩ := V
  have ec := hC_e k
  have np := hN_pos v1 (by omega)
  have kp := hN_pos v4 (by omega)
  have cp : 0 < hC k := by omega
  have pN := pw_46 (c := hC k) (n := hN s) (by omega) v3
  have n78 : ah_n h 78 = 18 := sh_n hs 78 18 (by decide) (by decide) rfl
  have n77 : ah_n h 77 = 18 := sh_n hs 77 18 (by decide) (by decide) rfl
  have c0 : ¬ nI (hC k) = 0 := by rw [n_0, nI_eq (by omega) (by omega)]; omega
  -- at a site
  have lp : ∀ (q i e u : Nat) (v6 : Int32), i + q = hN s → e < 2 ^ 20 → u = (if i < hN s then hC k ^ (hN s - 1 - i) else 0) → (∀ ot, ot < 20 → (e.testBit ot = true ↔ ∃ a, a < i ∧ hch s k r a ≠ 0 ∧ ot = 3 * a + (hch s k r a - 1))) → cb (sS e) 20 = cb (fun a => decide (hch s k r a ≠ 0)) i → (∀ x, x < 32 → (bt v6 x = true ↔ w.testBit x = true ∧ ∀ a, a < i → hch s k r a ≠ 0 → reB A (a + 1) (hkd s k r a) m (nth (sS s) a) x = false)) → (∀ a b, a < i → b < i → a ≠ b → hch s k r a ≠ 0 → hch s k r b ≠ 0 → shS9 A a (hkd s k r a) (hkd s k r b) (sgN A (nth (sS s) a) (nth (sS s) b)) 0 m = false) → Wp mX4_lampsOf Q 0 0 15 [some (.ref 74), some (.int (nI r)), none, some (.int (nI (hC k))), none, some (.int (nI e)), some (.int v6), some (.int (nI u)), some (.int (nI i)), none, none] [] h := by
    intro q
    induction q with
    | zero =>
      intro i e u v6 hi he hu be ce dk pc
      have e9 : i = hN s := by omega
      subst e9
      rw [if_neg (by omega)] at hu
      subst hu
      have fin : ((¬ v6 = 0 → Q (some (.int (-1))) h) ∧ (v6 = 0 → Q (some (.int (f_J6_bitCount_0f7a4 (nI e)))) h)) := by
        refine ⟨fun z => hq2 (fun ok => ?_), fun z => ?_⟩
        · obtain ⟨x, hx, bx⟩ := bt_ne z
          obtain ⟨y1, y2⟩ := (dk x hx).mp bx
          have x12 : x < 12 := by
            rcases Nat.lt_or_ge x 12 with y | y
            · exact y
            · rw [Nat.testBit_lt_two_pow (Nat.lt_of_lt_of_le (show w < 2 ^ 12 by omega) (Nat.pow_le_pow_right (by decide) y))] at y1
              exact absurd y1 (by decide)
          obtain ⟨a, a1, a2, a3⟩ := ok.2 x x12 y1
          rw [y2 a a1 a2] at a3
          exact absurd a3 (by decide)
        · rw [bc_20 he]
          have ok : okH A s k w m r := by
            refine ⟨pc, fun x hx wx => ?_⟩
            by_cases y : ∃ a, a < hN s ∧ hch s k r a ≠ 0 ∧ reB A (a + 1) (hkd s k r a) m (nth (sS s) a) x = true
            · exact y
            · exfalso
              have : bt v6 x = true := (dk x (by omega)).mpr ⟨wx, fun a a1 a2 => by
                cases t : reB A (a + 1) (hkd s k r a) m (nth (sS s) a) x
                · rfl
                · exact absurd ⟨a, a1, a2, t⟩ y⟩
              rw [z, b_0] at this
              exact absurd this (by decide)
          have := hq1 ok
          unfold hcn at this
          rw [← ce] at this
          exact this
      refine T_X4_lampsOf_15 hs _ _ _ _ _ _ ⟨fun _ => fin, fun _ => ⟨fun _ => fin, fun y => absurd (nI_le (a := 0) (b := 0) (Nat.le_refl _) (by omega)) y⟩⟩
    | succ q ih =>
      intro i e u v6 hi he hu be ce dk pc
      have hin : i < hN s := by omega
      rw [if_pos hin] at hu
      have up : 0 < u := by rw [hu]; exact pw_po cp _
      have ule : u ≤ 4096 := by rw [hu]; exact pw_46 (by omega) (by omega)
      have hl := hch_lt s k r i
      have unext : u / hC k = (if i + 1 < hN s then hC k ^ (hN s - 1 - (i + 1)) else 0) := by
        rw [hu]
        by_cases z : i + 1 < hN s
        · rw [if_pos z, show hN s - 1 - i = (hN s - 1 - (i + 1)) + 1 by omega, pw_dv cp]
        · rw [if_neg z, show hN s - 1 - i = 0 by omega, Nat.pow_zero]
          exact Nat.div_eq_of_lt (by omega)
      have ech : nI r / nI u - nI r / nI u / nI (hC k) * nI (hC k) = nI (hch s k r i) := by
        rw [nI_divI (by omega) (by omega), nI_remI (Nat.lt_of_le_of_lt (Nat.div_le_self _ _) (by omega)) (by omega), hu]
        rfl
      have u0 : ¬ nI u = 0 := by rw [n_0, nI_eq (by omega) (by omega)]; omega
      refine T_X4_lampsOf_15 hs _ _ _ _ _ _ ?_
      (first | refine ⟨fun _ => ?_, fun n_ => absurd (show ¬ 6 ≤ nI i from nI_ge (b := 6) (by omega) (by omega)) n_⟩ | refine ⟨fun n_ => absurd (show ¬ 6 ≤ nI i from nI_ge (b := 6) (by omega) (by omega)) n_, fun _ => ?_⟩ | refine ⟨fun y_ => absurd y_ (show ¬ 6 ≤ nI i from nI_ge (b := 6) (by omega) (by omega)), fun _ => ?_⟩ | refine ⟨fun _ => ?_, fun y_ => absurd y_ (show ¬ 6 ≤ nI i from nI_ge (b := 6) (by omega) (by omega))⟩)
      (first | refine ⟨fun _ => ?_, fun n_ => absurd (show ¬ nI u ≤ 0 from nI_ge (a := 0) up (by omega)) n_⟩ | refine ⟨fun n_ => absurd (show ¬ nI u ≤ 0 from nI_ge (a := 0) up (by omega)) n_, fun _ => ?_⟩ | refine ⟨fun y_ => absurd y_ (show ¬ nI u ≤ 0 from nI_ge (a := 0) up (by omega)), fun _ => ?_⟩ | refine ⟨fun _ => ?_, fun y_ => absurd y_ (show ¬ nI u ≤ 0 from nI_ge (a := 0) up (by omega))⟩)
      rw [ech, nI_divI (show u < 2 ^ 31 by omega) (show hC k < 2 ^ 31 by omega), nI_1]
      refine ⟨u0, c0, fun z => ⟨c0, ?_⟩, fun z => ?_⟩
      · have z0 : hch s k r i = 0 := by
          have : ¬ 0 < hch s k r i := fun y => nI_ge (a := 0) y (by omega) z
          omega
        refine ih (i + 1) e _ v6 (by omega) he unext (fun ot ho => (be ot ho).trans ?_) ?_ (fun x hx => (dk x hx).trans ?_) (fun a b ha hb ne na nb' => ?_)
        · constructor
          · rintro ⟨a, a1, a2⟩
            exact ⟨a, by omega, a2⟩
          · rintro ⟨a, a1, a2, a3⟩
            by_cases y : a = i
            · rw [y] at a2; exact absurd z0 a2
            · exact ⟨a, by omega, a2, a3⟩
        · rw [ce, cb_t0 (by rw [z0]; rfl)]
        · constructor
          · rintro ⟨y1, y2⟩
            refine ⟨y1, fun a a1 a2 => ?_⟩
            by_cases y : a = i
            · rw [y] at a2; exact absurd z0 a2
            · exact y2 a (by omega) a2
          · rintro ⟨y1, y2⟩
            exact ⟨y1, fun a a1 a2 => y2 a (by omega) a2⟩
        · have na' : a ≠ i := fun y => na (by rw [y]; exact z0)
          have nb2 : b ≠ i := fun y => nb' (by rw [y]; exact z0)
          exact pc a b (by omega) (by omega) ne na nb'
      · have z0 : hch s k r i ≠ 0 := fun y => z (by rw [y]; exact nI_le (a := 0) (b := 0) (Nat.le_refl _) (by omega))
        obtain ⟨it, eit⟩ : ∃ it, it = 3 * i + (hch s k r i - 1) := ⟨_, rfl⟩
        have i18 : it < 3 * hN s := by omega
        have d3 : it / 3 = i := by omega
        have m3 : it % 3 = hch s k r i - 1 := by omega
        have m3k : it % 3 < hN k := by omega
        have eidx : nI i * 3 + nI (hch s k r i) - 1 = nI it := by
          rw [n_3, nI_mul, nI_add, n_1, nI_sub (by omega), eit]
          congr 1
          omega
        have ki : hkd s k r i = nth (sS k) (it % 3) := by rw [hkd_y z0, m3]
        rw [eidx, nI_clamp (show it < 2 ^ 31 by omega), n78, n77]
        have vi : vp_in (nI it) 18 := (vp_nI (by omega)).mpr (by omega)
        obtain ⟨w1, w2⟩ := wg
        -- clashes with earlier ones
        have cla : ((ah_i h 78 it &&& nI e) = 0) ↔ ∀ a, a < i → hch s k r a ≠ 0 → shS9 A i (hkd s k r i) (hkd s k r a) (sgN A (nth (sS s) i) (nth (sS s) a)) 0 m = false ∧ shS9 A a (hkd s k r a) (hkd s k r i) (sgN A (nth (sS s) a) (nth (sS s) i)) 0 m = false := by
          have it_a : ∀ a, a < i → hch s k r a ≠ 0 → (3 * a + (hch s k r a - 1)) / 3 = a ∧ (3 * a + (hch s k r a - 1)) % 3 = hch s k r a - 1 ∧ hch s k r a - 1 < hN k := fun a ha na => by
            have := hch_lt s k r a
            omega
          have sh1 : ∀ a, a < i → hch s k r a ≠ 0 → shI A s k m it (3 * a + (hch s k r a - 1)) = shS9 A i (hkd s k r i) (hkd s k r a) (sgN A (nth (sS s) i) (nth (sS s) a)) 0 m ∧ shI A s k m (3 * a + (hch s k r a - 1)) it = shS9 A a (hkd s k r a) (hkd s k r i) (sgN A (nth (sS s) a) (nth (sS s) i)) 0 m := fun a ha na => by
            obtain ⟨q1, q2, q3⟩ := it_a a ha na
            have ka : hkd s k r a = nth (sS k) ((3 * a + (hch s k r a - 1)) % 3) := by rw [hkd_y na, q2]
            unfold shI
            rw [decide_eq_true (⟨m3k, by rw [q2]; exact q3, by rw [d3, q1]; omega⟩ : _ ∧ _ ∧ _), decide_eq_true (⟨by rw [q2]; exact q3, m3k, by rw [d3, q1]; omega⟩ : _ ∧ _ ∧ _), Bool.true_and, Bool.true_and, d3, q1, ← ki, ← ka]
            exact ⟨rfl, rfl⟩
          rw [and_0]
          constructor
          · intro q a ha na
            obtain ⟨q1, q2, q3⟩ := it_a a ha na
            obtain ⟨s1, s2⟩ := sh1 a ha na
            have be' : e.testBit (3 * a + (hch s k r a - 1)) = true := (be _ (by omega)).mpr ⟨a, ha, na, rfl⟩
            have no : ¬ bt (ah_i h 78 it) (3 * a + (hch s k r a - 1)) = true := fun y => by
              have := q _ (by omega) y
              rw [nb (by omega), be'] at this
              exact absurd this (by decide)
            rw [w2 it _ i18 (by omega), s1, s2] at no
            refine ⟨?_, ?_⟩
            · cases y : shS9 A i (hkd s k r i) (hkd s k r a) (sgN A (nth (sS s) i) (nth (sS s) a)) 0 m
              · rfl
              · exact absurd (.inl y) no
            · cases y : shS9 A a (hkd s k r a) (hkd s k r i) (sgN A (nth (sS s) a) (nth (sS s) i)) 0 m
              · rfl
              · exact absurd (.inr y) no
          · intro q ot ho hb
            rw [nb ho]
            by_cases o20 : ot < 20
            · cases y : e.testBit ot
              · rfl
              · obtain ⟨a, a1, a2, a3⟩ := (be ot o20).mp y
                obtain ⟨s1, s2⟩ := sh1 a a1 a2
                obtain ⟨q1, q2⟩ := q a a1 a2
                have := hch_lt s k r a
                rw [w2 it ot i18 (by omega), a3, s1, s2, q1, q2] at hb
                rcases hb with hb | hb <;> exact absurd hb (by decide)
            · exact Nat.testBit_lt_two_pow (Nat.lt_of_lt_of_le he (Nat.pow_le_pow_right (by decide) (by omega)))
        refine ⟨vi, fun y => ⟨vi, c0, ?_⟩, fun y => hq2 (fun ok => y (cla.mpr (fun a ha na => ⟨ok.1 i a hin (by omega) (by omega) z0 na, ok.1 a i (by omega) hin (by omega) na z0⟩)))⟩
        have cl := cla.mp y
        rw [nI_1sh (show it < 32 by omega), nI_or]
        have p2 : 2 ^ it < 2 ^ 20 := Nat.pow_lt_pow_right (by decide) (by omega)
        have fresh : e.testBit it = false := by
          cases t : e.testBit it
          · rfl
          · obtain ⟨a, a1, a2, a3⟩ := (be it (by omega)).mp t
            have := hch_lt s k r a
            omega
        refine ih (i + 1) _ _ _ (by omega) (Nat.or_lt_two_pow he p2) unext (fun ot ho => ?_) ?_ (fun x hx => ?_) (fun a b ha hb ne na nb' => ?_)
        · rw [tb_o, Bool.or_eq_true, be ot ho, decide_eq_true_eq]
          constructor
          · rintro (⟨a, a1, a2⟩ | y)
            · exact ⟨a, by omega, a2⟩
            · exact ⟨i, by omega, z0, by rw [← y, eit]⟩
          · rintro ⟨a, a1, a2, a3⟩
            by_cases y : a = i
            · rw [y] at a3; exact .inr (by rw [a3, eit])
            · exact .inl ⟨a, by omega, a2, a3⟩
        · rw [cb_t1 (f := fun a => decide (hch s k r a ≠ 0)) (j := i) (decide_eq_true z0), ← ce]
          exact cb_add (f := sS e) (f' := sS (e ||| 2 ^ it)) (x := it) (by omega) fresh (fun t _ => by
            show (e ||| 2 ^ it).testBit t = _
            rw [tb_o]
            congr 1
            by_cases y : it = t
            · rw [decide_eq_true y, decide_eq_true y.symm]
            · rw [decide_eq_false y, decide_eq_false (Ne.symm y)])
        · rw [b_and, b_not _ hx, Bool.and_eq_true, Bool.not_eq_true', dk x hx]
          have q := w1 it i18 m3k x hx
          rw [d3, ← ki] at q
          have rb : bt (ah_i h 77 it) x = false ↔ (x < 12 → reB A (i + 1) (hkd s k r i) m (nth (sS s) i) x = false) := by
            cases t : bt (ah_i h 77 it) x
            · refine ⟨fun _ hx2 => ?_, fun _ => rfl⟩
              cases t2 : reB A (i + 1) (hkd s k r i) m (nth (sS s) i) x
              · rfl
              · rw [q.mpr ⟨hx2, t2⟩] at t; exact absurd t (by decide)
            · obtain ⟨t1, t2⟩ := q.mp t
              refine ⟨fun y => absurd y (by decide), fun y => ?_⟩
              rw [y t1] at t2; exact absurd t2 (by decide)
          rw [rb]
          constructor
          · rintro ⟨⟨y1, y2⟩, y3⟩
            refine ⟨y1, fun a a1 a2 => ?_⟩
            by_cases t : a = i
            · rw [t]
              refine y3 ?_
              rcases Nat.lt_or_ge x 12 with t2 | t2
              · exact t2
              · rw [Nat.testBit_lt_two_pow (Nat.lt_of_lt_of_le (show w < 2 ^ 12 by omega) (Nat.pow_le_pow_right (by decide) t2))] at y1
                exact absurd y1 (by decide)
            · exact y2 a (by omega) a2
          · rintro ⟨y1, y2⟩
            exact ⟨⟨y1, fun a a1 a2 => y2 a (by omega) a2⟩, fun _ => y2 i (by omega) z0⟩
        · by_cases a1 : a = i
          · rw [a1]
            have b1 : b < i := by omega
            exact (cl b b1 nb').1
          · by_cases b1 : b = i
            · rw [b1]
              exact (cl a (by omega) na).2
            · exact pc a b (by omega) (by omega) ne na nb'
  refine T_X4_lampsOf hs _ _ _ _ ⟨c0, ?_⟩
  have e0 : nI (hC k ^ hN s) / nI (hC k) = nI (hC k ^ (hN s - 1)) := by
    rw [nI_divI (by omega) (by omega), show hN s = (hN s - 1) + 1 by omega, pw_dv cp, Nat.add_sub_cancel]
  rw [e0]
  refine lp (hN s) 0 0 _ _ (by omega) (by decide) (by rw [if_pos np, Nat.sub_zero]) (fun ot _ => ?_) ?_ (fun x hx => ?_) (fun a b ha => absurd ha (by omega))
  · rw [Nat.zero_testBit]
    exact ⟨fun y => absurd y (by decide), fun ⟨a, y, _⟩ => absurd y (by omega)⟩
  · show cb (sS 0) 20 = 0
    decide +kernel
  · rw [nb hx]
    exact ⟨fun y => ⟨y, fun a ha => absurd ha (by omega)⟩, fun y => y.1⟩
end HL
