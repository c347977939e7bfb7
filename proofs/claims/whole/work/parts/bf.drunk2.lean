/-! ===== who has drunk: both sides stagger ===== -/
def dk (A : Nat → Nat) (n seed c : Nat) : Nat → Nat × Nat
  | 0 => (seed, c)
  | j + 1 => if j + 1 ≤ n then (dw (dk A n seed c j).1, lvW A (dk A n seed c j).2 (A 245) 0 (dw (dk A n seed c j).1 % (dgr A (dk A n seed c j).2 + 1))) else dk A n seed c j
section DK2
variable {KX : ah_T → Prop} {RX WX SX : (Nat → Nat) → ah_T → Prop} {A : Nat → Nat} {h g h1 : ah_T} {g0 n c seed k : Nat}
theorem dk_s (j : Nat) : dk A n seed c (j + 1) = if j + 1 ≤ n then (dw (dk A n seed c j).1, lvW A (dk A n seed c j).2 (A 245) 0 (dw (dk A n seed c j).1 % (dgr A (dk A n seed c j).2 + 1))) else dk A n seed c j := rfl
theorem dk_lt (w : wfW A) (hc : c < 12) (hs : seed ≤ 1000003) : ∀ j, (dk A n seed c j).1 ≤ 1000003 ∧ (dk A n seed c j).2 < 12
  | 0 => ⟨hs, hc⟩
  | j + 1 => by
    have ih := dk_lt w hc hs j
    rw [dk_s]
    split
    · exact ⟨Nat.le_of_lt (dw_lt _), lvW_lt (fun v hv => ⟨(w.2.1 v hv).1, (w.2.1 v hv).2.1⟩) ih.2 _ _ _ (by omega)⟩
    · exact ih
theorem c_stagger {Q : Option Value → ah_T → Prop} (hs : Sh h) (wf : wfW A) (w : cWy A h) (nb : nbO (Ew A noS) h 30) (hc : c < 12) (hd : seed ≤ 1000003) (hn : n ≤ 60) {x1 x2 x3 : Int32} (e1 : x1 = nI seed) (e2 : x2 = nI c) (e3 : x3 = nI n)
    (hq : ∀ u, Sh u → ah_x u = ah_x h → (∀ a, a ≠ 19 → eqc h u a) → (∀ j, j < 120 → ah_i u 19 j = nI (dk A n seed c j).2) → Q none u) : Mt mX6_stagger [.ref 29, .int x1, .int x2, .int x3, .ref 19] h Q := by
  subst e1 e2 e3
  have k19 : ∀ {u : ah_T}, Sh u → ah_k u 19 = 14 := fun hs => sh_k hs 19 14 (by decide) rfl
  have n19 : ∀ {u : ah_T}, Sh u → ah_n u 19 = 120 := fun hs => sh_n hs 19 120 (by decide) (by decide) rfl
  have lp : ∀ (q j : Nat) (u : ah_T), j + q = 120 → Sh u → ah_x u = ah_x h → (∀ a, a ≠ 19 → eqc h u a) → (∀ i, i < j → ah_i u 19 i = nI (dk A n seed c i).2) → Wp mX6_stagger Q 0 0 10 [some (.ref 29), none, none, some (.int (nI n)), some (.ref 19), some (.long (Int64.ofNat (dk A n seed c (j - 1)).1)), none, some (.int (nI (dk A n seed c (j - 1)).2)), some (.int (nI j))] [] u := by
    intro q
    induction q with
    | zero =>
      intro j u hj s x f t
      have e9 : j = 120 := by omega
      subst e9
      refine T_X6_stagger_10 s _ 19 _ _ _ (k19 s) ?_
      (first | refine ⟨fun _ => ?_, fun n_ => absurd (show 120 ≤ nI 120 from nI_le (a := 120) (by omega) (by omega)) n_⟩ | refine ⟨fun n_ => absurd (show 120 ≤ nI 120 from nI_le (a := 120) (by omega) (by omega)) n_, fun _ => ?_⟩ | refine ⟨fun y_ => absurd y_ (show 120 ≤ nI 120 from nI_le (a := 120) (by omega) (by omega)), fun _ => ?_⟩ | refine ⟨fun _ => ?_, fun y_ => absurd y_ (show 120 ≤ nI 120 from nI_le (a := 120) (by omega) (by omega))⟩)
      exact hq u s x f t
    | succ q ih =>
      intro j u hj s x f t
      have vj : vp_in (nI j) 120 := (vp_nI (by omega)).mpr (by omega)
      obtain ⟨l1, l2⟩ := dk_lt (n := n) wf hc hd (j - 1)
      refine T_X6_stagger_10 s _ 19 _ _ _ (k19 s) ?_
      rw [n19 s, nI_ofNat, nI_clamp (show j < 2 ^ 31 by omega), nI_1]
      (first | refine ⟨fun _ => ?_, fun n_ => absurd (show ¬ 120 ≤ nI j from nI_ge (b := 120) (by omega) (by omega)) n_⟩ | refine ⟨fun n_ => absurd (show ¬ 120 ≤ nI j from nI_ge (b := 120) (by omega) (by omega)) n_, fun _ => ?_⟩ | refine ⟨fun y_ => absurd y_ (show ¬ 120 ≤ nI j from nI_ge (b := 120) (by omega) (by omega)), fun _ => ?_⟩ | refine ⟨fun _ => ?_, fun y_ => absurd y_ (show ¬ 120 ≤ nI j from nI_ge (b := 120) (by omega) (by omega))⟩)
      (first | refine ⟨fun _ => ?_, fun n_ => absurd (show ¬ nI 120 ≤ nI j from nI_ge (by omega) (by omega)) n_⟩ | refine ⟨fun n_ => absurd (show ¬ nI 120 ≤ nI j from nI_ge (by omega) (by omega)) n_, fun _ => ?_⟩ | refine ⟨fun y_ => absurd y_ (show ¬ nI 120 ≤ nI j from nI_ge (by omega) (by omega)), fun _ => ?_⟩ | refine ⟨fun _ => ?_, fun y_ => absurd y_ (show ¬ nI 120 ≤ nI j from nI_ge (by omega) (by omega))⟩)
      have nx : ∀ (v : ah_T), v = ah_si u 19 j (nI (dk A n seed c j).2) → Wp mX6_stagger Q 0 0 10 [some (.ref 29), none, none, some (.int (nI n)), some (.ref 19), some (.long (Int64.ofNat (dk A n seed c j).1)), none, some (.int (nI (dk A n seed c j).2)), some (.int (nI (j + 1)))] [] v := by
        rintro v rfl
        refine ih (j + 1) _ (by omega) (sh_si s) (by rw [ah_x_si]; exact x) (fun a n1 => eqc_si (f a n1) n1) (fun i hi => ?_)
        by_cases z : i = j
        · rw [z, ah_i_ss]
        · rw [ah_i_sn (by omega)]; exact t i (by omega)
      rcases Nat.eq_zero_or_pos j with z | z
      · subst z
        (first | refine ⟨fun _ => ?_, fun n_ => absurd (show nI 0 < 1 by decide) n_⟩ | refine ⟨fun n_ => absurd (show nI 0 < 1 by decide) n_, fun _ => ?_⟩ | refine ⟨fun y_ => absurd y_ (show nI 0 < 1 by decide), fun _ => ?_⟩ | refine ⟨fun _ => ?_, fun y_ => absurd y_ (show nI 0 < 1 by decide)⟩)
        exact ⟨vj, fun v ev => nx v ev⟩
      obtain ⟨i, rfl⟩ : ∃ i, j = i + 1 := ⟨j - 1, by omega⟩
      rw [Nat.add_sub_cancel] at l1 l2 ⊢
      (first | refine ⟨fun _ => ?_, fun n_ => absurd (show ¬ nI (i + 1) < 1 from nI_nlt (b := 1) (by omega) (by omega)) n_⟩ | refine ⟨fun n_ => absurd (show ¬ nI (i + 1) < 1 from nI_nlt (b := 1) (by omega) (by omega)) n_, fun _ => ?_⟩ | refine ⟨fun y_ => absurd y_ (show ¬ nI (i + 1) < 1 from nI_nlt (b := 1) (by omega) (by omega)), fun _ => ?_⟩ | refine ⟨fun _ => ?_, fun y_ => absurd y_ (show ¬ nI (i + 1) < 1 from nI_nlt (b := 1) (by omega) (by omega))⟩)
      have ds := dk_s (A := A) (n := n) (seed := seed) (c := c) i
      by_cases y : i + 1 ≤ n
      · (first | refine ⟨fun _ => ?_, fun n_ => absurd (show ¬ nI n < nI (i + 1) from nI_nlt y (by omega)) n_⟩ | refine ⟨fun n_ => absurd (show ¬ nI n < nI (i + 1) from nI_nlt y (by omega)) n_, fun _ => ?_⟩ | refine ⟨fun y_ => absurd y_ (show ¬ nI n < nI (i + 1) from nI_nlt y (by omega)), fun _ => ?_⟩ | refine ⟨fun _ => ?_, fun y_ => absurd y_ (show ¬ nI n < nI (i + 1) from nI_nlt y (by omega))⟩)
        rw [if_pos y] at ds
        have dl := dgr_le (c := (dk A n seed c i).2) wf
        have bc := nb_dgr (c := (dk A n seed c i).2) (r := ah_i u 30 (dk A n seed c i).2) wf (fun x hx => by rw [(f 30 (by decide)).1]; exact nb _ l2 x hx)
        have ml : dw (dk A n seed c i).1 % (dgr A (dk A n seed c i).2 + 1) < dgr A (dk A n seed c i).2 + 1 := Nat.mod_lt _ (by omega)
        have dwl := dw_lt (dk A n seed c i).1
        rw [sh_n s 30 12 (by decide) (by decide) rfl, nI_clamp (show (dk A n seed c i).2 < 2 ^ 31 by omega), bc, nI_1, lN_32 (show dgr A (dk A n seed c i).2 + 1 < 2 ^ 31 by omega), lN_dw l1, lN_rem (by omega) (by omega), lN_to (by omega)]
        refine ⟨(vp_nI (by omega)).mpr l2, fun e => ?_, ?_⟩
        · rw [show (0 : Int64) = Int64.ofNat 0 from rfl, loN_eq (by omega) (by omega)] at e
          omega
        have wu : cWy A u := by
          obtain ⟨q1, q2, q3, q4⟩ := w
          exact ⟨by rw [(f 2 (by decide)).1]; exact q1, by rw [(f 2 (by decide)).1]; exact q2, q3, fun v hv => by rw [(f 3 (by decide)).1, (f 3 (by decide)).1]; exact q4 v hv⟩
        refine c_leave s wu rfl rfl l2 (by omega) ⟨_, rfl, s, k19 s, ?_⟩
        rw [n19 s]
        refine ⟨vj, fun v ev => ?_⟩
        have := nx v (by rw [ds]; exact ev)
        rw [ds] at this
        exact this
      · (first | refine ⟨fun _ => ?_, fun n_ => absurd (show nI n < nI (i + 1) from nI_lt (by omega) (by omega)) n_⟩ | refine ⟨fun n_ => absurd (show nI n < nI (i + 1) from nI_lt (by omega) (by omega)) n_, fun _ => ?_⟩ | refine ⟨fun y_ => absurd y_ (show nI n < nI (i + 1) from nI_lt (by omega) (by omega)), fun _ => ?_⟩ | refine ⟨fun _ => ?_, fun y_ => absurd y_ (show nI n < nI (i + 1) from nI_lt (by omega) (by omega))⟩)
        rw [if_neg y] at ds
        refine ⟨vj, fun v ev => ?_⟩
        have := nx v (by rw [ds]; exact ev)
        rw [ds] at this
        exact this
  refine T_X6_stagger hs _ _ _ 19 (k19 hs) ?_
  rw [lN_32 (show seed < 2 ^ 31 by omega)]
  exact lp 120 0 h (by omega) hs rfl (fun _ _ => eqc_rfl) (fun i hi => absurd hi (by omega))
/-- the model draws -/
theorem m_staggers {Q : Option Value → ah_T → Prop} {s : Nat} (hs : Sh h) (w : mWy A h) (wf : wfW A) (e78 : ah_i h 82 78 = nI s) (hss : s ≤ 1000003) (hc : c < 12) {x1 : Int32} (e1 : x1 = nI c)
    (hq : Q (some (.int (nI (lvW A c (A 245) 0 (dw s % (dgr A c + 1)))))) (ah_si h 82 78 (nI (dw s)))) : Mt mX12_staggers [.ref 82, .int x1] h Q := by
  subst e1
  obtain ⟨a1, a2, a3⟩ := w
  have dl := dgr_le (c := c) wf
  have dwl := dw_lt s
  have t245 : Int32.toNatClampNeg 245 = 245 := rfl
  have ml : dw s % (dgr A c + 1) < dgr A c + 1 := Nat.mod_lt _ (by omega)
  have i0 : ∀ v, (0 : Int32) + 3 * nI v = nI (3 * v) := fun v => by rw [show (3 : Int32) = nI 3 from rfl, nI_mul]; exact Int32.zero_add _
  -- along the ways again
  have l71 : ∀ (q v l : Nat) (u : ah_T), v + q = A 245 → l ≤ 100 → u = ah_si h 82 78 (nI (dw s)) → lvW A c q v l = lvW A c (A 245) 0 (dw s % (dgr A c + 1)) → Wp mX12_staggers Q 0 0 71 [some (.ref 82), some (.int (nI c)), none, some (.int (nI l)), some (.int (nI v)), none, none] [] u := by
    intro q
    induction q with
    | zero =>
      intro v l u hv hl eu e
      have su : Sh u := by rw [eu]; exact sh_si hs
      have e9 : v = A 245 := by omega
      refine T_X12_staggers_71 su _ _ _ ?_
      rw [t245, show ah_i u 84 245 = nI (A 245) by rw [eu, ah_i_sn (by omega)]; exact a1, e9]
      (first | refine ⟨fun _ => ?_, fun n_ => absurd (show nI (A 245) ≤ nI (A 245) from nI_le (Nat.le_refl _) (by omega)) n_⟩ | refine ⟨fun n_ => absurd (show nI (A 245) ≤ nI (A 245) from nI_le (Nat.le_refl _) (by omega)) n_, fun _ => ?_⟩ | refine ⟨fun y_ => absurd y_ (show nI (A 245) ≤ nI (A 245) from nI_le (Nat.le_refl _) (by omega)), fun _ => ?_⟩ | refine ⟨fun _ => ?_, fun y_ => absurd y_ (show nI (A 245) ≤ nI (A 245) from nI_le (Nat.le_refl _) (by omega))⟩)
      rw [← e, ← eu] at hq
      exact hq
    | succ q ih =>
      intro v l u hv hl eu e
      have su : Sh u := by rw [eu]; exact sh_si hs
      have hv2 : v < A 245 := by omega
      obtain ⟨b1, b2, b3, b4⟩ := a3 v hv2
      have e' : (if l = 0 then c else if A (3 * v) = c ∨ A (3 * v + 1) = c then (if l - 1 = 0 then (if A (3 * v) = c then A (3 * v + 1) else A (3 * v)) else lvW A c q (v + 1) (l - 1)) else lvW A c q (v + 1) l) = lvW A c (A 245) 0 (dw s % (dgr A c + 1)) := e
      refine T_X12_staggers_71 su _ _ _ ?_
      rw [t245, show ah_i u 84 245 = nI (A 245) by rw [eu, ah_i_sn (by omega)]; exact a1]
      (first | refine ⟨fun _ => ?_, fun n_ => absurd (show ¬ nI (A 245) ≤ nI v from nI_ge (by omega) (by omega)) n_⟩ | refine ⟨fun n_ => absurd (show ¬ nI (A 245) ≤ nI v from nI_ge (by omega) (by omega)) n_, fun _ => ?_⟩ | refine ⟨fun y_ => absurd y_ (show ¬ nI (A 245) ≤ nI v from nI_ge (by omega) (by omega)), fun _ => ?_⟩ | refine ⟨fun _ => ?_, fun y_ => absurd y_ (show ¬ nI (A 245) ≤ nI v from nI_ge (by omega) (by omega))⟩)
      by_cases z : l = 0
      · (first | refine ⟨fun _ => ?_, fun n_ => absurd (show nI l ≤ 0 by rw [z]; decide) n_⟩ | refine ⟨fun n_ => absurd (show nI l ≤ 0 by rw [z]; decide) n_, fun _ => ?_⟩ | refine ⟨fun y_ => absurd y_ (show nI l ≤ 0 by rw [z]; decide), fun _ => ?_⟩ | refine ⟨fun _ => ?_, fun y_ => absurd y_ (show nI l ≤ 0 by rw [z]; decide)⟩)
        rw [if_pos z] at e'
        rw [← e', ← eu] at hq
        exact hq
      (first | refine ⟨fun _ => ?_, fun n_ => absurd (show ¬ nI l ≤ 0 from nI_ge (a := 0) (by omega) (by omega)) n_⟩ | refine ⟨fun n_ => absurd (show ¬ nI l ≤ 0 from nI_ge (a := 0) (by omega) (by omega)) n_, fun _ => ?_⟩ | refine ⟨fun y_ => absurd y_ (show ¬ nI l ≤ 0 from nI_ge (a := 0) (by omega) (by omega)), fun _ => ?_⟩ | refine ⟨fun _ => ?_, fun y_ => absurd y_ (show ¬ nI l ≤ 0 from nI_ge (a := 0) (by omega) (by omega))⟩)
      rw [if_neg z] at e'
      have l1 : nI l + (-1) = nI (l - 1) := by rw [nO_m1]; obtain ⟨l', rfl⟩ : ∃ l', l = l' + 1 := ⟨l - 1, by omega⟩; rw [nO_s]; rfl
      have b1' : ah_i u 84 (3 * v) = nI (A (3 * v)) := by rw [eu, ah_i_sn (by omega)]; exact b1
      have b2' : ah_i u 84 (3 * v + 1) = nI (A (3 * v + 1)) := by rw [eu, ah_i_sn (by omega)]; exact b2
      have z0 : nI (l - 1) = 0 ↔ l - 1 = 0 := by rw [show (0 : Int32) = nI 0 from rfl, nI_eq (by omega) (by omega)]
      rw [i0, nI_1, nI_1, l1, nI_clamp (show 3 * v < 2 ^ 31 by omega), nI_clamp (show 3 * v + 1 < 2 ^ 31 by omega), b1', b2', sh_n su 84 5860 (by decide) (by decide) rfl, nI_eq (show A (3 * v) < 2 ^ 31 by omega) (show c < 2 ^ 31 by omega), nI_eq (show A (3 * v + 1) < 2 ^ 31 by omega) (show c < 2 ^ 31 by omega), z0]
      refine ⟨(vp_nI (by omega)).mpr (by omega), (vp_nI (by omega)).mpr (by omega), fun y => ⟨fun y2 => ?_, fun y2 => ⟨fun y3 => absurd y y3, fun _ => ?_⟩⟩, fun y => ⟨fun y1 => ⟨fun y2 => ?_, fun y2 => ⟨fun _ => ?_, fun y3 => absurd y3 y⟩⟩, fun y1 => ?_⟩⟩
      · rw [if_pos (.inl y), if_neg y2] at e'
        exact ih (v + 1) (l - 1) u (by omega) (by omega) eu e'
      · rw [if_pos (.inl y), if_pos y2, if_pos y] at e'
        rw [← e', ← eu] at hq
        exact hq
      · rw [if_pos (.inr y1), if_neg y2] at e'
        exact ih (v + 1) (l - 1) u (by omega) (by omega) eu e'
      · rw [if_pos (.inr y1), if_pos y2, if_neg y] at e'
        rw [← e', ← eu] at hq
        exact hq
      · rw [if_neg (fun w => w.elim y y1)] at e'
        exact ih (v + 1) l u (by omega) hl eu e'
  have l4 : ∀ (q v : Nat), v + q = A 245 → Wp mX12_staggers Q 0 0 4 [some (.ref 82), some (.int (nI c)), some (.int (nI (cb (fun v => decide (A (3 * v) = c ∨ A (3 * v + 1) = c)) v))), some (.int (nI v)), none, none, none] [] h := by
    intro q
    induction q with
    | zero =>
      intro v hv
      have e9 : v = A 245 := by omega
      subst e9
      refine T_X12_staggers_4 hs _ _ _ ?_
      rw [t245, a1]
      (first | refine ⟨fun _ => ?_, fun n_ => absurd (show nI (A 245) ≤ nI (A 245) from nI_le (Nat.le_refl _) (by omega)) n_⟩ | refine ⟨fun n_ => absurd (show nI (A 245) ≤ nI (A 245) from nI_le (Nat.le_refl _) (by omega)) n_, fun _ => ?_⟩ | refine ⟨fun y_ => absurd y_ (show nI (A 245) ≤ nI (A 245) from nI_le (Nat.le_refl _) (by omega)), fun _ => ?_⟩ | refine ⟨fun _ => ?_, fun y_ => absurd y_ (show nI (A 245) ≤ nI (A 245) from nI_le (Nat.le_refl _) (by omega))⟩)
      rw [show nI (cb (fun v => decide (A (3 * v) = c ∨ A (3 * v + 1) = c)) (A 245)) + 1 = nI (dgr A c + 1) from nI_1 _]
      refine T_X12_draws hs _ ?_
      rw [e78, lN_32 (show s < 2 ^ 31 by omega), Int64.mul_comm, lN_dw hss, lN_to (by omega)]
      intro u eu
      have su : Sh u := by rw [eu]; exact sh_si hs
      have i78 : ah_i u 82 78 = nI (dw s) := by rw [eu, ah_i_ss]
      rw [i78, nI_remI (by omega) (by omega)]
      refine ⟨fun y => ?_, _, rfl, su, l71 (A 245) 0 _ u (by omega) (by omega) eu rfl⟩
      rw [show (0 : Int32) = nI 0 from rfl, nI_eq (by omega) (by omega)] at y
      omega
    | succ q ih =>
      intro v hv
      have hv2 : v < A 245 := by omega
      obtain ⟨b1, b2, b3, b4⟩ := a3 v hv2
      refine T_X12_staggers_4 hs _ _ _ ?_
      rw [t245, a1]
      (first | refine ⟨fun _ => ?_, fun n_ => absurd (show ¬ nI (A 245) ≤ nI v from nI_ge (by omega) (by omega)) n_⟩ | refine ⟨fun n_ => absurd (show ¬ nI (A 245) ≤ nI v from nI_ge (by omega) (by omega)) n_, fun _ => ?_⟩ | refine ⟨fun y_ => absurd y_ (show ¬ nI (A 245) ≤ nI v from nI_ge (by omega) (by omega)), fun _ => ?_⟩ | refine ⟨fun _ => ?_, fun y_ => absurd y_ (show ¬ nI (A 245) ≤ nI v from nI_ge (by omega) (by omega))⟩)
      rw [i0, show nI (3 * v) + 1 = nI (3 * v + 1) from nI_1 _, show nI v + 1 = nI (v + 1) from nI_1 _, nI_clamp (show 3 * v < 2 ^ 31 by omega), nI_clamp (show 3 * v + 1 < 2 ^ 31 by omega), b1, b2, sh_n hs 84 5860 (by decide) (by decide) rfl, nI_eq (show A (3 * v) < 2 ^ 31 by omega) (show c < 2 ^ 31 by omega), nI_eq (show A (3 * v + 1) < 2 ^ 31 by omega) (show c < 2 ^ 31 by omega), Int32.add_zero, nI_1]
      have nx := ih (v + 1) (by omega)
      have s1 : (A (3 * v) = c ∨ A (3 * v + 1) = c) → cb (fun v => decide (A (3 * v) = c ∨ A (3 * v + 1) = c)) (v + 1) = cb (fun v => decide (A (3 * v) = c ∨ A (3 * v + 1) = c)) v + 1 := fun y => cb_s1 (p := fun v => decide (A (3 * v) = c ∨ A (3 * v + 1) = c)) (decide_eq_true y)
      have s0 : ¬ (A (3 * v) = c ∨ A (3 * v + 1) = c) → cb (fun v => decide (A (3 * v) = c ∨ A (3 * v + 1) = c)) (v + 1) = cb (fun v => decide (A (3 * v) = c ∨ A (3 * v + 1) = c)) v := fun y => cb_s0 (p := fun v => decide (A (3 * v) = c ∨ A (3 * v + 1) = c)) (decide_eq_false y)
      refine ⟨(vp_nI (by omega)).mpr (by omega), fun y => ?_, fun y => ⟨(vp_nI (by omega)).mpr (by omega), fun y1 => ?_, fun y1 => ?_⟩⟩
      · rw [s1 (.inl y)] at nx; exact nx
      · rw [s0 (fun w => w.elim y y1)] at nx; exact nx
      · rw [s1 (.inr y1)] at nx; exact nx
  exact T_X12_staggers hs _ (l4 (A 245) 0 (by omega))
end DK2
