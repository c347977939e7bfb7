/-! ===== walks: the class lays one ===== -/
noncomputable def low (P : Nat → Prop) : Nat := @dite _ (∃ x, lsO P x) (Classical.propDecidable _) (fun y => Classical.choose y) (fun _ => 0)
theorem low_sp {P : Nat → Prop} (y : ∃ x, lsO P x) : lsO P (low P) := by
  have e : low P = Classical.choose y := dif_pos y
  rw [e]
  exact Classical.choose_spec y
noncomputable def wa (A : Nat → Nat) (b : Bool) (f m t e : Nat) : Nat → Nat
  | 0 => f
  | d + 1 => low (fun i => arnd A (fun x => x = wa A b f m t e d) i ∧ ldS A b m t e (e - (d + 1)) i)
section WK2
variable {A : Nat → Nat} {h g h1 : ah_T} {g0 n c f m t e d : Nat} {b : Bool} {P P' : Nat → Prop}
theorem wa_in (w : wkE A b f m t e) : ∀ d, d ≤ e → fwD A b f m d (wa A b f m t e d) ∧ ldS A b m t e (e - d) (wa A b f m t e d)
  | 0, _ => by
    have l0 := lead_0 w
    rw [Nat.sub_zero]
    refine ⟨?_, l0⟩
    obtain ⟨i, y1, y2⟩ := both_ex w e (Nat.le_refl _)
    rw [Nat.sub_self] at y1
    have : i = f := y1.1
    rw [this] at y1
    exact y1
  | d + 1, hd => by
    obtain ⟨i1, i2⟩ := wa_in w d (by omega)
    obtain ⟨p1, ⟨p2, p3⟩, _⟩ := low_sp (next_ex w (show d < e by omega) i1 i2)
    refine ⟨⟨arnd_mono (fun i y => by rw [y]; exact i1) p2, ?_⟩, p3⟩
    have := ldS_fn w.2.1 (e - (d + 1)) (by omega) p3
    rw [show e - (e - (d + 1)) = d + 1 by omega] at this
    exact this
theorem wa_row (w : wkE A b f m t e) : rowO A b f m t e (wa A b f m t e) := ⟨rfl, fun d hd => low_sp (next_ex w hd (wa_in w d (by omega)).1 (wa_in w d (by omega)).2)⟩
theorem fwD_lt (hd : fwD A b f m d c) : c < 12 := (fwD_fn d hd).1
theorem Sb_1 {k : Nat} (hk : k < 32) : Sb ((1 : Int32) <<< (nI k &&& 31)) (fun i => i = k) := fun i hi => by rw [b_1sh hk hi, decide_eq_true_eq]
theorem Sb_and {x y : Int32} (p : Sb x P) (q : Sb y P') : Sb (x &&& y) (fun i => P i ∧ P' i) := fun i hi => by rw [b_and, Bool.and_eq_true, p i hi, q i hi]
theorem Sb_iff {x : Int32} (p : Sb x P) (q : ∀ i, P i ↔ P' i) : Sb x P' := fun i hi => (p i hi).trans (q i)
/-- the lowest of a choice is kept -/
theorem c_low {Q : Option Value → ah_T → Prop} (hs : Sh h) {z x4 : Nat} {x1 v : Int32} (s : Sb v P) (ls : lsO P z) (h4 : x4 < 120) (hq : ∀ g, g = ah_si h 58 x4 (nI z) → Wp mX0_layWalk Q 0 0 64 [some (.ref 54), some (.int x1), none, some (.int ((1 : Int32) <<< (nI z &&& 31))), some (.int (nI (x4 + 1))), none, none] [] g) : Wp mX0_layWalk Q 0 0 104 [some (.ref 54), some (.int x1), none, none, some (.int (nI x4)), some (.int v), some (.int 0)] [] h := by
  obtain ⟨z1, z2, z3⟩ := ls
  have lp : ∀ (q k : Nat), k + q = 11 → k ≤ z → Wp mX0_layWalk Q 0 0 104 [some (.ref 54), some (.int x1), none, none, some (.int (nI x4)), some (.int v), some (.int (nI k))] [] h := by
    intro q
    induction q with
    | zero =>
      intro k hk hz
      have e9 : k = z := by omega
      subst e9
      refine T_X0_layWalk_104 hs _ _ _ _ ?_
      (first | refine ⟨fun _ => ?_, fun n_ => absurd (show 11 ≤ nI k from nI_le (a := 11) (by omega) (by omega)) n_⟩ | refine ⟨fun n_ => absurd (show 11 ≤ nI k from nI_le (a := 11) (by omega) (by omega)) n_, fun _ => ?_⟩ | refine ⟨fun y_ => absurd y_ (show 11 ≤ nI k from nI_le (a := 11) (by omega) (by omega)), fun _ => ?_⟩ | refine ⟨fun _ => ?_, fun y_ => absurd y_ (show 11 ≤ nI k from nI_le (a := 11) (by omega) (by omega))⟩)
      rw [nI_1, nI_clamp (show x4 < 2 ^ 31 by omega), sh_n hs 58 120 (by decide) (by decide) rfl]
      exact ⟨(vp_nI (by omega)).mpr h4, hq⟩
    | succ q ih =>
      intro k hk hz
      refine T_X0_layWalk_104 hs _ _ _ _ ?_
      (first | refine ⟨fun _ => ?_, fun n_ => absurd (show ¬ 11 ≤ nI k from nI_ge (b := 11) (by omega) (by omega)) n_⟩ | refine ⟨fun n_ => absurd (show ¬ 11 ≤ nI k from nI_ge (b := 11) (by omega) (by omega)) n_, fun _ => ?_⟩ | refine ⟨fun y_ => absurd y_ (show ¬ 11 ≤ nI k from nI_ge (b := 11) (by omega) (by omega)), fun _ => ?_⟩ | refine ⟨fun _ => ?_, fun y_ => absurd y_ (show ¬ 11 ≤ nI k from nI_ge (b := 11) (by omega) (by omega))⟩)
      rw [b_bit _ k (by omega), show nI x4 + 1 = nI (x4 + 1) from nI_1 _, show nI k + 1 = nI (k + 1) from nI_1 _, nI_clamp (show x4 < 2 ^ 31 by omega), sh_n hs 58 120 (by decide) (by decide) rfl]
      refine ⟨fun y => ?_, fun y => ?_⟩
      · have pk : P k := (s k (by omega)).mp (by cases w : bt v k; exact absurd w y; rfl)
        have e9 : k = z := by
          rcases Nat.lt_or_ge k z with w | w
          · exact absurd pk (z3 k w)
          · omega
        subst e9
        exact ⟨(vp_nI (by omega)).mpr h4, hq⟩
      · refine ih (k + 1) (by omega) ?_
        rcases Nat.lt_or_ge k z with w | w
        · exact w
        · have e9 : k = z := by omega
          subst e9
          rw [(s k (by omega)).mpr z2] at y
          exact absurd y (by decide)
  exact lp 11 0 (by omega) (by omega)
theorem c_layWalk {Q : Option Value → ah_T → Prop} (hs : Sh h) (nb : nbO (Ew A noS) h 30) (w12 : ∀ v, v < A 245 → A (3 * v) < A (3 * v + 1) ∧ A (3 * v + 1) < 12) (w : wkE A b f m t e) (hf : f < 12) (ht : t < 12) (e3 : ah_i h 54 3 = nI (m + e)) (sets : ∀ j, j ≤ e → Sb (ah_i h 61 (m + j)) (fwD A b f m j)) {x1 x2 : Int32} (e1 : x1 = nI m) (e2 : x2 = nI t)
    (hq : ∀ g, Sh g → ah_x g = ah_x h → (∀ a, a ≠ 58 → a ≠ 61 → eqc h g a) → (∀ j, j ≤ e → ah_i g 58 (m + j) = nI (wa A b f m t e j)) → Q none g) : Mt mX0_layWalk [.ref 54, .int x1, .int x2] h Q := by
  subst e1 e2
  have w120 := w.1
  have n61 : ∀ {u : ah_T}, Sh u → ah_n u 61 = 120 := fun hs => sh_n hs 61 120 (by decide) (by decide) rfl
  have vp : ∀ {j : Nat}, j < 120 → vp_in (nI j) 120 := fun hj => (vp_nI (by omega)).mpr hj
  refine T_X0_layWalk hs _ _ ?_
  rw [e3, n61 hs, nI_clamp (show m + e < 2 ^ 31 by omega)]
  refine ⟨vp w120, ?_⟩
  intro h2 q2
  have s2 : Sh h2 := by rw [q2]; exact sh_si hs
  have e2 : ∀ a, a ≠ 61 → eqc h h2 a := fun a n1 => by rw [q2]; exact eqc_si eqc_rfl n1
  rw [(e2 54 (by decide)).1, e3, nO_pred]
  have fwt : ∀ i, fwD A b f m e i ∧ ldS A b m t e (e - e) i ↔ i = t := by
    intro i
    rw [Nat.sub_self]
    exact ⟨fun y => y.2, fun y => ⟨by rw [y]; exact w.2.1, y⟩⟩
  -- forwards
  have l64 : ∀ (q d : Nat) (u : ah_T) (v : Int32), d + q = e + 1 → Sh u → ah_x u = ah_x h → (∀ a, a ≠ 58 → a ≠ 61 → eqc h u a) → (∀ j, j ≤ e → Sb (ah_i u 61 (m + j)) (fun i => fwD A b f m j i ∧ ldS A b m t e (e - j) i)) → (∀ j, j < d → ah_i u 58 (m + j) = nI (wa A b f m t e j)) → (d = 0 → Sb v (fun i => fwD A b f m 0 i ∧ ldS A b m t e e i)) → (0 < d → Sb v (fun i => i = wa A b f m t e (d - 1))) → Wp mX0_layWalk Q 0 0 64 [some (.ref 54), some (.int (nI m)), none, some (.int v), some (.int (nI (m + d))), none, none] [] u := by
    intro q
    induction q with
    | zero =>
      intro d u v hd su xu fu st ro v0 v1
      have e9 : d = e + 1 := by omega
      subst e9
      refine T_X0_layWalk_64 su _ _ _ ?_
      rw [(fu 54 (by decide) (by decide)).1, e3]
      (first | refine ⟨fun _ => ?_, fun n_ => absurd (show nI (m + e) < nI (m + (e + 1)) from nI_lt (by omega) (by omega)) n_⟩ | refine ⟨fun n_ => absurd (show nI (m + e) < nI (m + (e + 1)) from nI_lt (by omega) (by omega)) n_, fun _ => ?_⟩ | refine ⟨fun y_ => absurd y_ (show nI (m + e) < nI (m + (e + 1)) from nI_lt (by omega) (by omega)), fun _ => ?_⟩ | refine ⟨fun _ => ?_, fun y_ => absurd y_ (show nI (m + e) < nI (m + (e + 1)) from nI_lt (by omega) (by omega))⟩)
      exact hq u su xu fu (fun j hj => ro j (by omega))
    | succ q ih =>
      intro d u v hd su xu fu st ro v0 v1
      have hde : d ≤ e := by omega
      obtain ⟨w1, w2⟩ := wa_in w d hde
      have lt12 := fwD_lt w1
      refine T_X0_layWalk_64 su _ _ _ ?_
      rw [(fu 54 (by decide) (by decide)).1, e3]
      (first | refine ⟨fun _ => ?_, fun n_ => absurd (show ¬ nI (m + e) < nI (m + d) from nI_nlt (by omega) (by omega)) n_⟩ | refine ⟨fun n_ => absurd (show ¬ nI (m + e) < nI (m + d) from nI_nlt (by omega) (by omega)) n_, fun _ => ?_⟩ | refine ⟨fun y_ => absurd y_ (show ¬ nI (m + e) < nI (m + d) from nI_nlt (by omega) (by omega)), fun _ => ?_⟩ | refine ⟨fun _ => ?_, fun y_ => absurd y_ (show ¬ nI (m + e) < nI (m + d) from nI_nlt (by omega) (by omega))⟩)
      rw [nI_eq (show m + d < 2 ^ 31 by omega) (show m < 2 ^ 31 by omega), nI_clamp (show m + d < 2 ^ 31 by omega)]
      -- behind the choice
      have nx : ∀ g', g' = ah_si u 58 (m + d) (nI (wa A b f m t e d)) → Wp mX0_layWalk Q 0 0 64 [some (.ref 54), some (.int (nI m)), none, some (.int ((1 : Int32) <<< (nI (wa A b f m t e d) &&& 31))), some (.int (nI (m + d + 1))), none, none] [] g' := by
        rintro g' rfl
        refine ih (d + 1) _ _ (by omega) (sh_si su) (by rw [ah_x_si]; exact xu) (fun a n1 n2 => eqc_si (fu a n1 n2) n1) (fun j hj => by rw [ah_i_sn (by omega)]; exact st j hj) (fun j hj => ?_) (fun y => absurd y (by omega)) (fun _ => Sb_1 (by omega))
        by_cases z : j = d
        · rw [z, ah_i_ss]
        · rw [ah_i_sn (by omega)]; exact ro j (by omega)
      refine ⟨fun y => ?_, fun y => ?_⟩
      · have d1 : 0 < d := by omega
        obtain ⟨d', rfl⟩ : ∃ d', d = d' + 1 := ⟨d - 1, by omega⟩
        have v1' := v1 d1
        rw [Nat.add_sub_cancel] at v1'
        have nbu : nbO (Ew A noS) u 30 := fun x hx i hi => by rw [(fu 30 (by decide) (by decide)).1]; exact nb x hx i hi
        refine c_around su nbu v1' (fun i y => by rw [y]; exact fwD_lt (wa_in w d' (by omega)).1) (fun r sr => ⟨_, rfl, su, ?_⟩)
        rw [n61 su]
        refine ⟨vp (by omega), ?_⟩
        have row := (wa_row w).2 d' (by omega)
        refine c_low (P := fun i => arnd A (fun x => x = wa A b f m t e d') i ∧ ldS A b m t e (e - (d' + 1)) i) su (Sb_iff (Sb_and sr (st (d' + 1) hde)) (fun i => ?_)) row (by omega) nx
        constructor
        · rintro ⟨y1, y2, y3⟩; exact ⟨y1, y3⟩
        · rintro ⟨y1, y3⟩
          refine ⟨y1, ⟨arnd_mono (fun x y => by rw [y]; exact (wa_in w d' (by omega)).1) y1, ?_⟩, y3⟩
          have := ldS_fn w.2.1 (e - (d' + 1)) (by omega) y3
          rw [show e - (e - (d' + 1)) = d' + 1 by omega] at this
          exact this
      · have d0 : d = 0 := by omega
        subst d0
        rw [n61 su]
        refine ⟨vp (by omega), ?_⟩
        refine c_low (P := fun i => i = f) su (Sb_iff (Sb_and (v0 rfl) (st 0 (by omega))) (fun i => ?_)) ⟨hf, rfl, fun j hj y => by omega⟩ (by omega) nx
        constructor
        · rintro ⟨⟨⟨y1, _⟩, _⟩, _⟩; exact y1
        · intro y
          subst y
          have a := wa_in w 0 (by omega)
          exact ⟨a, a⟩
  -- backwards
  have l19 : ∀ (k : Nat) (u : ah_T), k ≤ e → Sh u → ah_x u = ah_x h → (∀ a, a ≠ 61 → eqc h u a) → (∀ j, j < k → Sb (ah_i u 61 (m + j)) (fwD A b f m j)) → (∀ j, k ≤ j → j ≤ e → Sb (ah_i u 61 (m + j)) (fun i => fwD A b f m j i ∧ ldS A b m t e (e - j) i)) → Wp mX0_layWalk Q 0 0 19 [some (.ref 54), some (.int (nI m)), none, some (.int (nO (m + k))), none, none, none] [] u := by
    intro k
    induction k with
    | zero =>
      intro u hk su xu fu s1 s2
      refine T_X0_layWalk_19 su _ _ ?_
      (first | refine ⟨fun _ => ?_, fun n_ => absurd (show nO (m + 0) < nI m from (nO_ltI (by omega) (by omega)).mpr (by omega)) n_⟩ | refine ⟨fun n_ => absurd (show nO (m + 0) < nI m from (nO_ltI (by omega) (by omega)).mpr (by omega)) n_, fun _ => ?_⟩ | refine ⟨fun y_ => absurd y_ (show nO (m + 0) < nI m from (nO_ltI (by omega) (by omega)).mpr (by omega)), fun _ => ?_⟩ | refine ⟨fun _ => ?_, fun y_ => absurd y_ (show nO (m + 0) < nI m from (nO_ltI (by omega) (by omega)).mpr (by omega))⟩)
      rw [n61 su, nI_clamp (show m < 2 ^ 31 by omega)]
      refine ⟨vp (by omega), ?_⟩
      have a0 := s2 0 (Nat.le_refl _) (by omega)
      exact l64 (e + 1) 0 u _ (by omega) su xu (fun a n1 n2 => fu a n2) (fun j hj => s2 j (by omega) hj) (fun j hj => absurd hj (by omega)) (fun _ => a0) (fun y => absurd y (by omega))
    | succ k ih =>
      intro u hk su xu fu s1 s2
      refine T_X0_layWalk_19 su _ _ ?_
      rw [show nO (m + (k + 1)) = nI (m + k) by rw [← Nat.add_assoc, nO_s]]
      (first | refine ⟨fun _ => ?_, fun n_ => absurd (show ¬ nI (m + k) < nI m from nI_nlt (by omega) (by omega)) n_⟩ | refine ⟨fun n_ => absurd (show ¬ nI (m + k) < nI m from nI_nlt (by omega) (by omega)) n_, fun _ => ?_⟩ | refine ⟨fun y_ => absurd y_ (show ¬ nI (m + k) < nI m from nI_nlt (by omega) (by omega)), fun _ => ?_⟩ | refine ⟨fun _ => ?_, fun y_ => absurd y_ (show ¬ nI (m + k) < nI m from nI_nlt (by omega) (by omega))⟩)
      rw [n61 su, show nI (m + k) + 1 = nI (m + (k + 1)) from nI_1 _, nI_clamp (show m + k < 2 ^ 31 by omega), nI_clamp (show m + (k + 1) < 2 ^ 31 by omega), nO_m1]
      refine ⟨vp (by omega), vp (by omega), ?_⟩
      have nbu : nbO (Ew A noS) u 30 := fun x hx i hi => by rw [(fu 30 (by decide)).1]; exact nb x hx i hi
      refine c_around su nbu (s2 (k + 1) (Nat.le_refl _) hk) (fun i y => fwD_lt y.1) (fun r sr => ⟨_, rfl, su, ?_⟩)
      rw [n61 su]
      refine ⟨vp (by omega), ?_⟩
      rintro h13 rfl
      refine ih _ (by omega) (sh_si su) (by rw [ah_x_si]; exact xu) (fun a n1 => eqc_si (fu a n1) n1) (fun j hj => by rw [ah_i_sn (by omega)]; exact s1 j (by omega)) (fun j h1 h2 => ?_)
      by_cases z : j = k
      · rw [z, ah_i_ss]
        have cs := cs_step w (r := e - (k + 1)) (by omega)
        rw [show e - (e - (k + 1) + 1) = k by omega, show e - (e - (k + 1)) = k + 1 by omega, show e - (k + 1) + 1 = e - k by omega] at cs
        exact Sb_iff (Sb_and (s1 k (by omega)) sr) cs
      · rw [ah_i_sn (by omega)]; exact s2 j (by omega) h2
  refine l19 e h2 (Nat.le_refl _) s2 (by rw [q2, ah_x_si]) e2 (fun j hj => by rw [q2, ah_i_sn (by omega)]; exact sets j (by omega)) (fun j h1 h2 => ?_)
  have ej : j = e := by omega
  subst ej
  rw [q2, ah_i_ss]
  exact Sb_iff (Sb_1 (by omega)) (fun i => (fwt i).symm)
end WK2
