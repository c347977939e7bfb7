/-! ===== rounds: the class gathers stops, fills costs ===== -/
section RD
variable {A st of : Nat → Nat} {h g : ah_T} {k a b s m x y c n : Nat}
/-- the corner of a lamp -/
theorem c_getC {Q : Option Value → ah_T → Prop} {x1 : Int32} (hs : Sh h) (lm : lmO A h) {j : Nat} (hj : j < A 246) (e1 : x1 = nI j) (hq : Q (some (.int (nI (coL A j)))) h) : Mt mX7_get [.ref 4, .int x1, .int 0] h Q := by
  have h10 := lm.2.2.1.1
  refine c_getW hs (.inr (.inl rfl)) e1 (k := 0) rfl lm.1 lm.2.1 (show 3 * A 246 ≤ 30 by omega) hj (by omega) ?_
  rw [show 4 + 1 = 5 from rfl, show 3 * j + 0 = 3 * j from rfl, lm.2.2.2 (3 * j) (by omega)]
  exact hq
theorem c_gather2 {Q : Option Value → ah_T → Prop} (hs : Sh h) (lm : lmO A h) (hq : ∀ g k st of, stG A k st of g → Sh g → ah_x g = ah_x h → (∀ a, a ≠ 29 → a ≠ 36 → a ≠ 37 → eqc h g a) → (∀ j, j ≠ 10 → ah_i g 29 j = ah_i h 29 j) → (∀ j, ah_r g 29 j = ah_r h 29 j) → Q none g) : Mt mX6_gatherStops [.ref 29] h Q := by
  have h10 := lm.2.2.1.1
  have lp : ∀ (q j k : Nat) (st of : Nat → Nat) (u : ah_T), j + q = A 246 → Sh u → ah_x u = ah_x h → (∀ a, a ≠ 29 → a ≠ 36 → a ≠ 37 → eqc h u a) → (∀ i, i ≠ 10 → ah_i u 29 i = ah_i h 29 i) → (∀ i, ah_r u 29 i = ah_r h 29 i) → ah_i u 29 10 = nI k → k ≤ j → (∀ t, t < k → ah_i u 36 t = nI (st t) ∧ ∃ l, l < A 246 ∧ st t = coL A l) → (∀ l, l < j → ah_i u 37 l = nI (of l) ∧ of l < k ∧ st (of l) = coL A l) → Wp mX6_gatherStops Q 0 0 7 [some (.ref 29), some (.int (nI j)), none, none] [] u := by
    intro q
    induction q with
    | zero =>
      intro j k st of u hj su xu eu e29 r29 i10 hk ss so
      have e9 : j = A 246 := by omega
      subst e9
      refine T_X6_gatherStops_7 su _ ?_
      rw [(eu 4 (by decide) (by decide) (by decide)).1, lm.2.1]
      (first | refine ⟨fun _ => ?_, fun n_ => absurd (show nI (A 246) ≤ nI (A 246) from nI_le (Nat.le_refl _) (by omega)) n_⟩ | refine ⟨fun n_ => absurd (show nI (A 246) ≤ nI (A 246) from nI_le (Nat.le_refl _) (by omega)) n_, fun _ => ?_⟩ | refine ⟨fun y_ => absurd y_ (show nI (A 246) ≤ nI (A 246) from nI_le (Nat.le_refl _) (by omega)), fun _ => ?_⟩ | refine ⟨fun _ => ?_, fun y_ => absurd y_ (show nI (A 246) ≤ nI (A 246) from nI_le (Nat.le_refl _) (by omega))⟩)
      exact hq u k st of ⟨i10, hk, ss, so⟩ su xu eu e29 r29
    | succ q ih =>
      intro j k st of u hj su xu eu e29 r29 i10 hk ss so
      have hjn : j < A 246 := by omega
      have lmu : lmO A u := lmO_fr (eu 4 (by decide) (by decide) (by decide)).1 (eu 5 (by decide) (by decide) (by decide)).1 lm
      have n36 : ah_n u 36 = 10 := sh_n su 36 10 (by decide) (by decide) rfl
      have n37 : ∀ {v : ah_T}, Sh v → ah_n v 37 = 10 := fun hs => sh_n hs 37 10 (by decide) (by decide) rfl
      have vj : vp_in (nI j) 10 := (vp_nI (by omega)).mpr (by omega)
      refine T_X6_gatherStops_7 su _ ?_
      rw [lmu.2.1]
      (first | refine ⟨fun _ => ?_, fun n_ => absurd (show ¬ nI (A 246) ≤ nI j from nI_ge hjn (by omega)) n_⟩ | refine ⟨fun n_ => absurd (show ¬ nI (A 246) ≤ nI j from nI_ge hjn (by omega)) n_, fun _ => ?_⟩ | refine ⟨fun y_ => absurd y_ (show ¬ nI (A 246) ≤ nI j from nI_ge hjn (by omega)), fun _ => ?_⟩ | refine ⟨fun _ => ?_, fun y_ => absurd y_ (show ¬ nI (A 246) ≤ nI j from nI_ge hjn (by omega))⟩)
      refine c_getC su lmu hjn rfl ⟨_, rfl, su, ?_⟩
      -- an old stop
      have old : ∀ t, t < k → st t = coL A j → Wp mX6_gatherStops Q 0 0 7 [some (.ref 29), some (.int (nI (j + 1))), none, none] [] (ah_si u 37 j (nI t)) := by
        intro t ht e
        refine ih (j + 1) k st (fun l => if l = j then t else of l) _ (by omega) (sh_si su) (by rw [ah_x_si]; exact xu) (fun a n1 n2 n3 => eqc_si (eu a n1 n2 n3) n3) (fun i hi => by rw [ah_i_sn (by omega)]; exact e29 i hi) r29 (by rw [ah_i_sn (by omega)]; exact i10) (by omega) (fun t' ht' => by rw [ah_i_sn (by omega)]; exact ss t' ht') (fun l hl => ?_)
        by_cases z : l = j
        · subst z
          rw [if_pos rfl, ah_i_ss]
          exact ⟨rfl, ht, e⟩
        · rw [if_neg z, ah_i_sn (fun y => z y.2)]
          exact so l (by omega)
      have new : (∀ t, t < k → st t ≠ coL A j) → Wp mX6_gatherStops Q 0 0 7 [some (.ref 29), some (.int (nI (j + 1))), none, none] [] (ah_si (ah_si (ah_si u 36 k (nI (coL A j))) 29 10 (nI (k + 1))) 37 j (nI k)) := by
        intro no
        refine ih (j + 1) (k + 1) (fun t => if t = k then coL A j else st t) (fun l => if l = j then k else of l) _ (by omega) (sh_si (sh_si (sh_si su))) (by rw [ah_x_si, ah_x_si, ah_x_si]; exact xu) (fun a n1 n2 n3 => eqc_si (eqc_si (eqc_si (eu a n1 n2 n3) n2) n1) n3) (fun i hi => by rw [ah_i_sn (by omega), ah_i_sn (fun y => hi y.2), ah_i_sn (by omega)]; exact e29 i hi) r29 (by rw [ah_i_sn (by omega), ah_i_ss]) (by omega) (fun t ht => ?_) (fun l hl => ?_)
        · by_cases z : t = k
          · subst z
            rw [if_pos rfl, ah_i_sn (by omega), ah_i_sn (by omega), ah_i_ss]
            exact ⟨rfl, j, hjn, rfl⟩
          · rw [if_neg z, ah_i_sn (by omega), ah_i_sn (by omega), ah_i_sn (fun y => z y.2)]
            exact ss t (by omega)
        · by_cases z : l = j
          · subst z
            rw [if_pos rfl, if_pos rfl, ah_i_ss]
            exact ⟨rfl, by omega, rfl⟩
          · obtain ⟨w1, w2, w3⟩ := so l (by omega)
            rw [if_neg z, if_neg (by omega), ah_i_sn (fun y => z y.2), ah_i_sn (by omega), ah_i_sn (by omega)]
            exact ⟨w1, by omega, w3⟩
      have l36 : ∀ (q2 t : Nat), t + q2 = k → (∀ i, i < t → st i ≠ coL A j) → Wp mX6_gatherStops Q 0 0 36 [some (.ref 29), some (.int (nI j)), some (.int (nI (coL A j))), some (.int (nI t))] [] u := by
        intro q2
        induction q2 with
        | zero =>
          intro t ht no
          have e9 : t = k := by omega
          subst e9
          refine T_X6_gatherStops_36 su _ _ _ ?_
          rw [i10]
          (first | refine ⟨fun _ => ?_, fun n_ => absurd (show nI t ≤ nI t from nI_le (Nat.le_refl _) (by omega)) n_⟩ | refine ⟨fun n_ => absurd (show nI t ≤ nI t from nI_le (Nat.le_refl _) (by omega)) n_, fun _ => ?_⟩ | refine ⟨fun y_ => absurd y_ (show nI t ≤ nI t from nI_le (Nat.le_refl _) (by omega)), fun _ => ?_⟩ | refine ⟨fun _ => ?_, fun y_ => absurd y_ (show nI t ≤ nI t from nI_le (Nat.le_refl _) (by omega))⟩)
          (first | refine ⟨fun _ => ?_, fun n_ => absurd (show nI t = nI t from rfl) n_⟩ | refine ⟨fun n_ => absurd (show nI t = nI t from rfl) n_, fun _ => ?_⟩ | refine ⟨fun y_ => absurd y_ (show nI t = nI t from rfl), fun _ => ?_⟩ | refine ⟨fun _ => ?_, fun y_ => absurd y_ (show nI t = nI t from rfl)⟩)
          rw [n36, nI_clamp (show t < 2 ^ 31 by omega), nI_clamp (show j < 2 ^ 31 by omega)]
          refine ⟨(vp_nI (by omega)).mpr (by omega), ?_⟩
          rintro h15 rfl
          rw [show ah_i (ah_si u 36 t (nI (coL A j))) 29 10 + 1 = nI (t + 1) by rw [ah_i_sn (by omega), i10, nI_1]]
          rintro h18 rfl
          rw [n37 (sh_si (sh_si su))]
          refine ⟨vj, ?_⟩
          rintro h22 rfl
          rw [nI_1]
          exact new no
        | succ q2 ih2 =>
          intro t ht no
          obtain ⟨s1, s2⟩ := ss t (by omega)
          have c12 : st t < 12 := by
            obtain ⟨l, q1, q2⟩ := s2
            rw [q2]; exact (lm.2.2.1.2 l q1).1
          have d12 : coL A j < 12 := (lm.2.2.1.2 j hjn).1
          refine T_X6_gatherStops_36 su _ _ _ ?_
          rw [i10]
          (first | refine ⟨fun _ => ?_, fun n_ => absurd (show ¬ nI k ≤ nI t from nI_ge (by omega) (by omega)) n_⟩ | refine ⟨fun n_ => absurd (show ¬ nI k ≤ nI t from nI_ge (by omega) (by omega)) n_, fun _ => ?_⟩ | refine ⟨fun y_ => absurd y_ (show ¬ nI k ≤ nI t from nI_ge (by omega) (by omega)), fun _ => ?_⟩ | refine ⟨fun _ => ?_, fun y_ => absurd y_ (show ¬ nI k ≤ nI t from nI_ge (by omega) (by omega))⟩)
          rw [n36, nI_clamp (show t < 2 ^ 31 by omega), nI_clamp (show j < 2 ^ 31 by omega), s1, nI_eq (show st t < 2 ^ 31 by omega) (show coL A j < 2 ^ 31 by omega), nI_eq (show t < 2 ^ 31 by omega) (show k < 2 ^ 31 by omega), n37 su]
          refine ⟨(vp_nI (by omega)).mpr (by omega), fun z => ⟨fun _ => ⟨vj, ?_⟩, fun y => absurd y (by omega)⟩, fun z => ?_⟩
          · rintro h29 rfl
            rw [nI_1]
            exact old t (by omega) z
          · rw [nI_1]
            refine ih2 (t + 1) (by omega) (fun i hi => ?_)
            by_cases w : i = t
            · rw [w]; exact z
            · exact no i (by omega)
      exact l36 k 0 (by omega) (fun i hi => absurd hi (by omega))
  refine T_X6_gatherStops hs ?_
  rintro h1 rfl
  exact lp (A 246) 0 0 (fun _ => 0) (fun _ => 0) _ (by omega) (sh_si hs) (by rw [ah_x_si]) (fun a n1 n2 n3 => eqc_si eqc_rfl n1) (fun i hi => ah_i_sn (fun y => hi y.2)) (fun _ => rfl) (by rw [ah_i_ss]; rfl) (by omega) (fun t ht => absurd ht (by omega)) (fun l hl => absurd hl (by omega))
theorem c_fillC {Q : Option Value → ah_T → Prop} (hs : Sh h) (sp : spO A h) (wl : wfL A) (sg : stG A k st of h) (kx : kxR h) (fin : ∀ t t', t < k → t' < k → dS A (st t) (st t') < 1000000) (hq : ∀ g b, Sh g → ah_x h ≤ ah_x g → ah_r g 29 11 = some b → 123 ≤ b → b < ah_x g → (b < ah_x h → ah_r h 29 11 = some b) → ah_k g b = 14 → ah_n g b = 10240 → coO A k st b g → (∀ a, a ≠ 29 → a < ah_x h → a ≠ b → eqc h g a) → (∀ j, ah_i g 29 j = ah_i h 29 j) → (∀ j, j ≠ 11 → ah_r g 29 j = ah_r h 29 j) → (∀ a, a < ah_x h → ah_k g a = ah_k h a) → Q none g) : Mt mX6_fillCosts [.ref 29] h Q := by
  have h10 := wl.1
  have x123 := hs.2.2
  have hk : k ≤ 10 := by have := sg.2.1; omega
  have p2 := p2_10 hk
  -- the rows, over a heap with the cell
  have run : ∀ (v : ah_T) (b : Nat), Sh v → ah_x h ≤ ah_x v → ah_r v 29 11 = some b → 123 ≤ b → b < ah_x v → (b < ah_x h → ah_r h 29 11 = some b) → ah_k v b = 14 → ah_n v b = 10240 → (∀ a, a ≠ 29 → a < ah_x h → a ≠ b → eqc h v a) → (∀ j, ah_i v 29 j = ah_i h 29 j) → (∀ j, j ≠ 11 → ah_r v 29 j = ah_r h 29 j) → (∀ a, a < ah_x h → ah_k v a = ah_k h a) → Wp mX6_fillCosts Q 1 10240 18 [some (.ref 29), some (.int (nI 0)), none] [] v := by
    intro v b sv xv rb hb hbx bo kb nbb ev e29 r29 kn
    have ok : ∀ {u : ah_T}, (∀ a, a ≠ b → eqc v u a) → Sh u → ah_k u b = 14 → ah_n u b = 10240 → ah_r u 29 11 = some b ∧ spO A u ∧ ah_i u 29 10 = nI k ∧ (∀ t, t < k → ah_i u 36 t = nI (st t) ∧ st t < 12) := by
      intro u eu su ku nu
      have e : ∀ a, a < 123 → a ≠ 29 → ∀ j, ah_i u a j = ah_i h a j := fun a h1 h2 j => by rw [(eu a (by omega)).1, (ev a h2 (by omega) (by omega)).1]
      refine ⟨by rw [(eu 29 (by omega)).2.2.1]; exact rb, fun x y hx hy => by rw [e 33 (by omega) (by omega)]; exact sp x y hx hy, by rw [(eu 29 (by omega)).1, e29]; exact sg.1, fun t ht => ?_⟩
      rw [e 36 (by omega) (by omega)]
      exact st_12 wl sg t ht
    have l18 : ∀ (q s : Nat) (u : ah_T), s + q = 2 ^ k → Sh u → ah_x u = ah_x v → (∀ a, a ≠ b → eqc v u a) → ah_k u b = 14 → ah_n u b = 10240 → (∀ a, ah_k u a = ah_k v a) → (∀ s' t, s' < s → t < k → ah_i u b (s' * 10 + t) = nI (rG A k st s' (st t))) → Wp mX6_fillCosts Q 1 10240 18 [some (.ref 29), some (.int (nI s)), none] [] u := by
      intro q
      induction q with
      | zero =>
        intro s u hsq su xu eu ku nu kk cs
        have e9 : s = 2 ^ k := by omega
        subst e9
        obtain ⟨o1, o2, o3, o4⟩ := ok eu su ku nu
        refine T_X6_fillCosts_18 su _ ?_
        rw [o3, nI_1sh (by omega)]
        (first | refine ⟨fun _ => ?_, fun n_ => absurd (show nI (2 ^ k) ≤ nI (2 ^ k) from nI_le (Nat.le_refl _) (by omega)) n_⟩ | refine ⟨fun n_ => absurd (show nI (2 ^ k) ≤ nI (2 ^ k) from nI_le (Nat.le_refl _) (by omega)) n_, fun _ => ?_⟩ | refine ⟨fun y_ => absurd y_ (show nI (2 ^ k) ≤ nI (2 ^ k) from nI_le (Nat.le_refl _) (by omega)), fun _ => ?_⟩ | refine ⟨fun _ => ?_, fun y_ => absurd y_ (show nI (2 ^ k) ≤ nI (2 ^ k) from nI_le (Nat.le_refl _) (by omega))⟩)
        refine hq u b su (by omega) o1 hb (by omega) bo ku nu cs (fun a h1 h2 h3 => eqc_trans (ev a h1 h2 h3) (eu a h3)) (fun j => by rw [(eu 29 (by omega)).1]; exact e29 j) (fun j hj => by rw [(eu 29 (by omega)).2.2.1]; exact r29 j hj) (fun a ha => by rw [kk]; exact kn a ha)
      | succ q ih =>
        intro s u hsq su xu eu ku nu kk cs
        obtain ⟨o1, o2, o3, o4⟩ := ok eu su ku nu
        refine T_X6_fillCosts_18 su _ ?_
        rw [o3, nI_1sh (by omega)]
        (first | refine ⟨fun _ => ?_, fun n_ => absurd (show ¬ nI (2 ^ k) ≤ nI s from nI_ge (by omega) (by omega)) n_⟩ | refine ⟨fun n_ => absurd (show ¬ nI (2 ^ k) ≤ nI s from nI_ge (by omega) (by omega)) n_, fun _ => ?_⟩ | refine ⟨fun y_ => absurd y_ (show ¬ nI (2 ^ k) ≤ nI s from nI_ge (by omega) (by omega)), fun _ => ?_⟩ | refine ⟨fun _ => ?_, fun y_ => absurd y_ (show ¬ nI (2 ^ k) ≤ nI s from nI_ge (by omega) (by omega))⟩)
        have l30 : ∀ (q2 t : Nat) (w : ah_T), t + q2 = k → Sh w → ah_x w = ah_x v → (∀ a, a ≠ b → eqc v w a) → ah_k w b = 14 → ah_n w b = 10240 → (∀ a, ah_k w a = ah_k v a) → (∀ s' t', (s' < s ∧ t' < k) ∨ (s' = s ∧ t' < t) → ah_i w b (s' * 10 + t') = nI (rG A k st s' (st t'))) → Wp mX6_fillCosts Q 1 10240 30 [some (.ref 29), some (.int (nI s)), some (.int (nI t))] [] w := by
          intro q2
          induction q2 with
          | zero =>
            intro t w ht sw xw ew kw nw kk2 cw
            have e9 : t = k := by omega
            subst e9
            obtain ⟨o1, o2, o3, o4⟩ := ok ew sw kw nw
            refine T_X6_fillCosts_30 sw _ _ ?_
            rw [o3]
            (first | refine ⟨fun _ => ?_, fun n_ => absurd (show nI t ≤ nI t from nI_le (Nat.le_refl _) (by omega)) n_⟩ | refine ⟨fun n_ => absurd (show nI t ≤ nI t from nI_le (Nat.le_refl _) (by omega)) n_, fun _ => ?_⟩ | refine ⟨fun y_ => absurd y_ (show nI t ≤ nI t from nI_le (Nat.le_refl _) (by omega)), fun _ => ?_⟩ | refine ⟨fun _ => ?_, fun y_ => absurd y_ (show nI t ≤ nI t from nI_le (Nat.le_refl _) (by omega))⟩)
            rw [nI_1]
            refine ih (s + 1) w (by omega) sw xw ew kw nw kk2 (fun s' t' h1 h2 => cw s' t' ?_)
            by_cases z : s' = s
            · exact .inr ⟨z, h2⟩
            · exact .inl ⟨by omega, h2⟩
          | succ q2 ih2 =>
            intro t w ht sw xw ew kw nw kk2 cw
            obtain ⟨o1, o2, o3, o4⟩ := ok ew sw kw nw
            obtain ⟨p1, p2'⟩ := o4 t (by omega)
            refine T_X6_fillCosts_30 sw _ _ ?_
            rw [o3]
            (first | refine ⟨fun _ => ?_, fun n_ => absurd (show ¬ nI k ≤ nI t from nI_ge (by omega) (by omega)) n_⟩ | refine ⟨fun n_ => absurd (show ¬ nI k ≤ nI t from nI_ge (by omega) (by omega)) n_, fun _ => ?_⟩ | refine ⟨fun y_ => absurd y_ (show ¬ nI k ≤ nI t from nI_ge (by omega) (by omega)), fun _ => ?_⟩ | refine ⟨fun _ => ?_, fun y_ => absurd y_ (show ¬ nI k ≤ nI t from nI_ge (by omega) (by omega))⟩)
            refine ⟨fun e => (by rw [o1] at e; cases e), fun b' e => ?_⟩
            have eb : b = b' := Option.some.inj (o1.symm.trans e)
            subst eb
            have a1 : nI s * 10 + nI t = nI (s * 10 + t) := by rw [n_10, nI_mul, nI_add]
            rw [a1, nI_1, nI_clamp (show t < 2 ^ 31 by omega), nI_clamp (show s * 10 + t < 2 ^ 31 by omega), p1, sh_n sw 36 10 (by decide) (by decide) rfl]
            refine ⟨kw, (vp_nI (by omega)).mpr (by omega), ?_⟩
            refine c_rest sw o2 o3 hk o4 o1 kw nw (by omega) p2' rfl rfl (fun t' ht' bt => cw _ _ (.inl ⟨dn_xor (by omega) (by omega) bt, ht'⟩)) (fun t' ht' => fin t t' (by omega) ht') ⟨_, rfl, sw, kw, ?_⟩
            rw [nw]
            refine ⟨(vp_nI (by omega)).mpr (by omega), ?_⟩
            rintro h30 rfl
            refine ih2 (t + 1) _ (by omega) (sh_si sw) (by rw [ah_x_si]; exact xw) (fun a n1 => eqc_si (ew a n1) n1) kw nw kk2 (fun s' t' o => ?_)
            by_cases z : s' = s ∧ t' = t
            · rw [z.1, z.2, ah_i_ss]
            · rw [ah_i_sn (fun y => z (by omega))]
              exact cw s' t' (by omega)
        exact l30 k 0 u (by omega) su xu eu ku nu kk (fun s' t' o => by
          rcases o with o | o
          · exact cs s' t' o.1 o.2
          · omega)
    exact l18 (2 ^ k) 0 v (by omega) sv rfl (fun _ _ => eqc_rfl) kb nbb (fun _ => rfl) (fun s' t h1 => absurd h1 (by omega))
  refine T_X6_fillCosts hs ⟨fun e => ?_, fun b e => ?_⟩
  · rintro w4 rfl h6 rfl h11 rfl
    have E : ∀ a, a ≠ 29 → a < ah_x h → eqc h (ah_sr (ah_nw h 14 10240) 29 11 (some (ah_x h))) a := fun a h1 h2 => eqc_sr (eqc_nw eqc_rfl (by omega)) h1
    refine run _ (ah_x h) (sh_sr (sh_nw hs) (by decide +kernel)) (by rw [ah_x_sr, ah_x_nw]; omega) (by rw [ah_r_sr, if_pos ⟨rfl, rfl⟩]) x123 (by rw [ah_x_sr, ah_x_nw]; omega) (fun y => absurd y (by omega)) (by rw [ah_k_sr, ah_k_nw, if_pos rfl]) (by rw [ah_n_sr, ah_n_nw, if_pos rfl]) (fun a h1 h2 _ => E a h1 h2) (fun j => ?_) (fun j hj => ?_) (fun a ha => ?_)
    · rw [ah_i_sr, ah_i_nw, if_neg (by omega)]
    · rw [ah_r_sr, if_neg (fun y => hj y.2), ah_r_nw, if_neg (by omega)]
    · rw [ah_k_sr, ah_k_nw, if_neg (by omega)]
  · obtain ⟨k1, k2, k3, k4⟩ := kx b e
    exact ⟨k3, run h b hs (Nat.le_refl _) e k1 k2 (fun _ => e) k3 k4 (fun _ _ _ _ => eqc_rfl) (fun _ => rfl) (fun _ _ => rfl) (fun _ _ => rfl)⟩
end RD
