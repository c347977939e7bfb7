/-! ===== go on both sides; what is only read ===== -/
section RW
variable {TX : ah_T → Nat → (Nat → Nat) → (Nat → Nat) → Nat → Prop} {CC : (Nat → Nat) → ah_T → Prop} {CM : Nat → (Nat → Nat) → ah_T → Prop} {n : Nat}
theorem cpL_in {A : Nat → Nat} {h : ah_T} (q : cpL A h 8 84 0) (w : wfN A) {l : Nat} (hl : l < A 248) : ∃ g la, g ≤ 15 ∧ la < 12 ∧ A (164 + 19 * l) = g + 1 ∧ ah_i h 9 (l * 19 + 3) = nI g ∧ (g = 0 → ah_i h 9 (l * 19 + 2) = nI la) ∧ (0 < g → ah_i h 9 (l * 19 + (4 + g - 1)) = nI la) ∧ ah_i h 84 (164 + 19 * l) = nI (g + 1) ∧ ah_i h 84 (165 + 19 * l + g) = nI la := by
  obtain ⟨q1, q2, q3, q4, q5⟩ := q
  obtain ⟨v3, v4, v5, v6, v7⟩ := w.2 l hl
  obtain ⟨r1, r2, r3, r4, r5, r6, r7, r8, r9⟩ := q5 l hl
  simp only [Nat.zero_add] at r6 r7 r8 r9
  obtain ⟨g, hg⟩ : ∃ g, A (164 + 19 * l) = g + 1 := ⟨A (164 + 19 * l) - 1, by omega⟩
  rw [hg] at r4 r5 r8 r9
  refine ⟨g, A (165 + 19 * l + g), by omega, v7 g (by omega), hg, ?_, fun e => ?_, fun e => ?_, r8, r9 g (by omega)⟩
  · rw [show l * 19 + 3 = 19 * l + 3 by omega]; exact r4
  · subst e
    rw [show l * 19 + 2 = 19 * l + 2 by omega]; exact r3
  · have := r5 (g - 1) (by omega)
    rw [show l * 19 + (4 + g - 1) = 19 * l + (4 + (g - 1)) by omega, this, show 166 + 19 * l + (g - 1) = 165 + 19 * l + g by omega]
theorem rel_go (hTX : TXp TX) (hCC : CCp CC) (hCM : CMp CM) (a b : Int32) : lw_RC (Inv TX CC CM (n + 1)) (Inv TX CC CM n) mX11_go mX12_go [.int a, .int b] := by
  intro h hI
  have hI' := hI
  obtain ⟨hs, A, B0, B1, d, D, wf, tn, im, sc, tp, dr, cc, cm⟩ := hI'
  refine T_X11_go hs a b ?_
  by_cases c1 : f_X11_isIn b 12 = 0
  · (first | refine ⟨fun _ => ?_, fun n_ => absurd (c1) n_⟩ | refine ⟨fun n_ => absurd (c1) n_, fun _ => ?_⟩ | refine ⟨fun y_ => absurd y_ (c1), fun _ => ?_⟩ | refine ⟨fun _ => ?_, fun y_ => absurd y_ (c1)⟩)
    (refine rl_rf hs why1 (T_X12_go (sh_cRf hs) a b ?_); try simp only [q_corner, q_kind, q_minute, q_two, q_three, q_ten, qf0, qf1, qf2]; (first | refine ⟨fun _ => ?_, fun n_ => absurd (c1) n_⟩ | refine ⟨fun n_ => absurd (c1) n_, fun _ => ?_⟩ | refine ⟨fun y_ => absurd y_ (c1), fun _ => ?_⟩ | refine ⟨fun _ => ?_, fun y_ => absurd y_ (c1)⟩); exact rl_mf hTX hCC hCM hI why1)
  (first | refine ⟨fun _ => ?_, fun n_ => absurd (c1) n_⟩ | refine ⟨fun n_ => absurd (c1) n_, fun _ => ?_⟩ | refine ⟨fun y_ => absurd y_ (c1), fun _ => ?_⟩ | refine ⟨fun _ => ?_, fun y_ => absurd y_ (c1)⟩)
  obtain ⟨c, hc, rfl⟩ := q_isn (n := 12) (by decide) c1
  obtain ⟨p0, p1, p3, p4, p6⟩ := tn.2.2.2.1
  simp only [Nat.zero_add] at p4
  have p5 : A 248 ≤ 2 := wf.2.2.2.1.1
  obtain ⟨k1, k2, k3', k4⟩ := tk hs 8 (by omega)
  refine c_has3 hs (by omega) p3 (by omega) (fun l hl el => ?_) (fun c3 => ?_)
  · refine ⟨_, rfl, hs, ?_⟩
    subst el
    (first | refine ⟨fun _ => ?_, fun n_ => absurd (show ¬ (1 : Int32) = 0 by decide) n_⟩ | refine ⟨fun n_ => absurd (show ¬ (1 : Int32) = 0 by decide) n_, fun _ => ?_⟩ | refine ⟨fun y_ => absurd y_ (show ¬ (1 : Int32) = 0 by decide), fun _ => ?_⟩ | refine ⟨fun _ => ?_, fun y_ => absurd y_ (show ¬ (1 : Int32) = 0 by decide)⟩)
    obtain ⟨g, la, hg, hla, eg, e3, e2, e4, m1, m2⟩ := cpL_in tn.2.2.2.1 wf.2.2.2.1 hl
    have h19 : A 248 * 19 ≤ ah_n h 9 := by rw [k4]; show A 248 * 19 ≤ 38; omega
    refine c_getN hs 8 9 _ _ l 3 rfl rfl k1 k2 k3' (n := A 248) (w := 19) p1 p3 h19 (.inr (.inl rfl)) (by omega) hl (by decide) ⟨_, rfl, hs, ?_⟩
    rw [e3]
    have mr : ∀ x p, (∀ j, ah_i (cRf h x p) 84 j = ah_i h 84 j) := fun x p j => rf_84 (by decide) (by decide)
    have mw := fun x p => mWy_of (h2 := cRf h x p) wf tn (mr x p)
    have fin : (la = c ∨ hasW A la c) → ((¬ nI g = 15 → (Mt mX7_swap [.ref 8, .int (nI l), .int (4 + nI g), .int (nI c)] h (ab_qi fun v17 h15 => Sh h15 ∧ (Mt mX7_swap [.ref 8, .int (nI l), .int 3, .int (nI g + 1)] h15 (ab_qi fun v20 h18 => Sh h18 ∧ (Mt mX11_change [.ref 0, .int (nI g + 1)] h18 (ab_qi fun v23 h21 => Sh h21 ∧ rQ (Inv TX CC CM n) mX12_go [.ref 82, .int (nI l), .int (nI c)] (some (.int v23)) h21))))))) ∧ (nI g = 15 → (Mt mX11_refuse [.ref 0, .int (-5)] h (ab_qi fun v26 h24 => Sh h24 ∧ rQ (Inv TX CC CM n) mX12_go [.ref 82, .int (nI l), .int (nI c)] (some (.int v26)) h24)))) := by
      intro hw
      refine ⟨fun c15 => ?_, fun c15 => ?_⟩
      · have hg2 : g < 15 := by
          rw [n_15, nI_eq (by omega) (by omega)] at c15
          omega
        refine c_swap hs 8 9 _ _ _ l (4 + g) rfl (by rw [n_4, nI_add]) k1 k2 k3' (n := A 248) (w := 19) p1 p3 h19 (.inr (.inl rfl)) (by omega) hl (by omega) ⟨_, rfl, sh_si hs, ?_⟩
        refine c_swap (sh_si hs) 8 9 _ _ _ l 3 rfl rfl k1 k2 k3' (n := A 248) (w := 19) p1 p3 h19 (.inr (.inl rfl)) (by omega) hl (by decide) ⟨_, rfl, sh_si (sh_si hs), ?_⟩
        rw [nI_1]
        have hs1 : Sh (cGo h l g c) := sh_cGo hs
        refine rl_ch (h := cGo h l g c) hs1 ?_
        have hs2 := sh_chg hs1
        have e84 : ∀ j, ah_i (chg (cGo h l g c)) 84 j = ah_i h 84 j := fun j => by rw [chg_i (by decide), (cGo_eq eqc_rfl (by decide) : eqc h (cGo h l g c) 84).1]
        refine m_go (h := chg (cGo h l g c)) hs2 (mWy_of wf tn e84) (by omega) hl p5 (by rw [e84, p4]) (by rw [e84]; exact m1) hg hla (by rw [e84]; exact m2) hc (fun q1 q2 => ?_) (fun _ q => by omega) (fun _ _ => ?_)
        · rcases hw with q | q
          · exact absurd q q1
          · exact absurd q q2
        · have hs3 := sh_mGo (l := l) (g := g) (c := c) hs2
          refine rl_go hs3 rfl ?_
          show Inv TX CC CM n (fGo h l g c)
          refine inv_told hTX hCC hCM (sh_god hs3) im sc tp dr cc cm (A' := upG A l g c) (wf_go wf hl eg hg2 hc) ?_ tl_Go (.inr ⟨fGo_18, fun j hj => upG_n (by omega) (by omega), upG_n (by omega) (by omega), upG_n (by omega) (by omega)⟩)
          have o : ot (fun a => a = 9) (fun j => 162 ≤ j ∧ j < 200) A (upG A l g c) h (fGo h l g c) :=
            ⟨fun i h1 h2 h3 => fGo_eq (by omega) (by omega) (by omega) (by omega), fun i h1 => fGo_eq (by omega) (by omega) (by omega) (by omega), by rw [x_god, x_mGo, x_chg, x_cGo], fun j hj hJ => ⟨by rw [fGo_84, if_neg (by omega), if_neg (by omega)], upG_n (by omega) (by omega)⟩⟩
          obtain ⟨q1, q2, q3, q4, q5, q6, q7, q8⟩ := tn
          exact ⟨ot_3 o (by omega) (by omega) (by omega) (by omega) (by omega) (by omega) (fun j hj => by omega) q1,
            ot_3 o (by omega) (by omega) (by omega) (by omega) (by omega) (by omega) (fun j hj => by omega) q2,
            ot_3 o (by omega) (by omega) (by omega) (by omega) (by omega) (by omega) (fun j hj => by omega) q3,
            cpL_go hl eg hg2 wf.2.2.2.1 q4,
            ot_3 o (by omega) (by omega) (by omega) (by omega) (by omega) (by omega) (fun j hj => by omega) q5,
            ot_3 o (by omega) (by omega) (by omega) (by omega) (by omega) (by omega) (fun j hj => by omega) q6,
            ot_T o (by omega) (fun j hj => by omega) q7,
            ot_W o hTX wf.2.2.2.2.2.2.2 (by omega) (by omega) (fun j hj => by omega) q8⟩
      · have hg2 : g = 15 := by
          rw [n_15, nI_eq (by omega) (by omega)] at c15
          omega
        refine rl_rf hs why5 (m_go (sh_cRf hs) (mw _ _) (by omega) hl p5 (by rw [mr, p4]) (by rw [mr]; exact m1) hg hla (by rw [mr]; exact m2) hc (fun q1 q2 => ?_) (fun _ _ => ?_) (fun _ q => by omega))
        · rcases hw with q | q
          · exact absurd q q1
          · exact absurd q q2
        · exact rl_mf hTX hCC hCM hI why5
    have mid : ((nI la = nI c → ((¬ nI g = 15 → (Mt mX7_swap [.ref 8, .int (nI l), .int (4 + nI g), .int (nI c)] h (ab_qi fun v17 h15 => Sh h15 ∧ (Mt mX7_swap [.ref 8, .int (nI l), .int 3, .int (nI g + 1)] h15 (ab_qi fun v20 h18 => Sh h18 ∧ (Mt mX11_change [.ref 0, .int (nI g + 1)] h18 (ab_qi fun v23 h21 => Sh h21 ∧ rQ (Inv TX CC CM n) mX12_go [.ref 82, .int (nI l), .int (nI c)] (some (.int v23)) h21))))))) ∧ (nI g = 15 → (Mt mX11_refuse [.ref 0, .int (-5)] h (ab_qi fun v26 h24 => Sh h24 ∧ rQ (Inv TX CC CM n) mX12_go [.ref 82, .int (nI l), .int (nI c)] (some (.int v26)) h24))))) ∧ (¬ nI la = nI c → (Mt mX10_isWay [.ref 1, .int (nI la), .int (nI c)] h (ab_qi fun v29 h27 => Sh h27 ∧ ((¬ v29 = 0 → ((¬ nI g = 15 → (Mt mX7_swap [.ref 8, .int (nI l), .int (4 + nI g), .int (nI c)] h27 (ab_qi fun v34 h32 => Sh h32 ∧ (Mt mX7_swap [.ref 8, .int (nI l), .int 3, .int (nI g + 1)] h32 (ab_qi fun v37 h35 => Sh h35 ∧ (Mt mX11_change [.ref 0, .int (nI g + 1)] h35 (ab_qi fun v40 h38 => Sh h38 ∧ rQ (Inv TX CC CM n) mX12_go [.ref 82, .int (nI l), .int (nI c)] (some (.int v40)) h38))))))) ∧ (nI g = 15 → (Mt mX11_refuse [.ref 0, .int (-5)] h27 (ab_qi fun v43 h41 => Sh h41 ∧ rQ (Inv TX CC CM n) mX12_go [.ref 82, .int (nI l), .int (nI c)] (some (.int v43)) h41))))) ∧ (v29 = 0 → (Mt mX11_refuse [.ref 0, .int (-3)] h27 (ab_qi fun v46 h44 => Sh h44 ∧ rQ (Inv TX CC CM n) mX12_go [.ref 82, .int (nI l), .int (nI c)] (some (.int v46)) h44)))))))) := by
      refine ⟨fun e => fin (.inl ((nI_eq (by omega) (by omega)).mp e)), fun e => ?_⟩
      refine c_isWay hs (cWy_of wf tn (fun _ => rfl) (fun _ => rfl)) la c hla hc (fun hw => ⟨_, rfl, hs, ?_⟩) (fun hw => ⟨_, rfl, hs, ?_⟩)
      · (first | refine ⟨fun _ => ?_, fun n_ => absurd (show ¬ (1 : Int32) = 0 by decide) n_⟩ | refine ⟨fun n_ => absurd (show ¬ (1 : Int32) = 0 by decide) n_, fun _ => ?_⟩ | refine ⟨fun y_ => absurd y_ (show ¬ (1 : Int32) = 0 by decide), fun _ => ?_⟩ | refine ⟨fun _ => ?_, fun y_ => absurd y_ (show ¬ (1 : Int32) = 0 by decide)⟩)
        exact fin (.inr hw)
      · (first | refine ⟨fun _ => ?_, fun n_ => absurd (show (0 : Int32) = 0 by rfl) n_⟩ | refine ⟨fun n_ => absurd (show (0 : Int32) = 0 by rfl) n_, fun _ => ?_⟩ | refine ⟨fun y_ => absurd y_ (show (0 : Int32) = 0 by rfl), fun _ => ?_⟩ | refine ⟨fun _ => ?_, fun y_ => absurd y_ (show (0 : Int32) = 0 by rfl)⟩)
        have hne : la ≠ c := fun q => e (by rw [q])
        have ab : ¬ (la = c ∨ hasW A la c) := fun q => q.elim hne hw
        refine rl_rf hs why3 (m_go (sh_cRf hs) (mw _ _) (by omega) hl p5 (by rw [mr, p4]) (by rw [mr]; exact m1) hg hla (by rw [mr]; exact m2) hc (fun _ _ => ?_) (fun q _ => absurd q ab) (fun q _ => absurd q ab))
        exact rl_mf hTX hCC hCM hI why3
    rcases Nat.eq_zero_or_pos g with z | z
    · (first | refine ⟨fun _ => ?_, fun n_ => absurd (show nI g = 0 by rw [z]; rfl) n_⟩ | refine ⟨fun n_ => absurd (show nI g = 0 by rw [z]; rfl) n_, fun _ => ?_⟩ | refine ⟨fun y_ => absurd y_ (show nI g = 0 by rw [z]; rfl), fun _ => ?_⟩ | refine ⟨fun _ => ?_, fun y_ => absurd y_ (show nI g = 0 by rw [z]; rfl)⟩)
      refine c_getN hs 8 9 _ _ l 2 rfl rfl k1 k2 k3' (n := A 248) (w := 19) p1 p3 h19 (.inr (.inl rfl)) (by omega) hl (by decide) ⟨_, rfl, hs, ?_⟩
      rw [e2 z]
      exact mid
    · (first | refine ⟨fun _ => ?_, fun n_ => absurd (show ¬ nI g = 0 from nI_ne0 z (by omega)) n_⟩ | refine ⟨fun n_ => absurd (show ¬ nI g = 0 from nI_ne0 z (by omega)) n_, fun _ => ?_⟩ | refine ⟨fun y_ => absurd y_ (show ¬ nI g = 0 from nI_ne0 z (by omega)), fun _ => ?_⟩ | refine ⟨fun _ => ?_, fun y_ => absurd y_ (show ¬ nI g = 0 from nI_ne0 z (by omega))⟩)
      refine c_getN hs 8 9 _ _ l (4 + g - 1) rfl (by rw [n_4, nI_add, n_1, nI_sub (by omega)]) k1 k2 k3' (n := A 248) (w := 19) p1 p3 h19 (.inr (.inl rfl)) (by omega) hl (by omega) ⟨_, rfl, hs, ?_⟩
      rw [e4 z]
      exact mid
  · refine ⟨_, rfl, hs, ?_⟩
    (first | refine ⟨fun _ => ?_, fun n_ => absurd (show (0 : Int32) = 0 by rfl) n_⟩ | refine ⟨fun n_ => absurd (show (0 : Int32) = 0 by rfl) n_, fun _ => ?_⟩ | refine ⟨fun y_ => absurd y_ (show (0 : Int32) = 0 by rfl), fun _ => ?_⟩ | refine ⟨fun _ => ?_, fun y_ => absurd y_ (show (0 : Int32) = 0 by rfl)⟩)
    have k4 : f_X12_isLantern (cRf h (-2) 1) a = 0 := by unfold f_X12_isLantern; rw [cl_248, rf_84 (by decide) (by decide), p4, q_has (by omega), if_neg c3]
    (refine rl_rf hs why2 (T_X12_go (sh_cRf hs) _ _ ?_); try simp only [q_corner, q_kind, q_minute, q_two, q_three, q_ten, qf0, qf1, qf2]; (first | refine ⟨fun _ => ?_, fun n_ => absurd (c1) n_⟩ | refine ⟨fun n_ => absurd (c1) n_, fun _ => ?_⟩ | refine ⟨fun y_ => absurd y_ (c1), fun _ => ?_⟩ | refine ⟨fun _ => ?_, fun y_ => absurd y_ (c1)⟩); (first | refine ⟨fun _ => ?_, fun n_ => absurd (k4) n_⟩ | refine ⟨fun n_ => absurd (k4) n_, fun _ => ?_⟩ | refine ⟨fun y_ => absurd y_ (k4), fun _ => ?_⟩ | refine ⟨fun _ => ?_, fun y_ => absurd y_ (k4)⟩); exact rl_mf hTX hCC hCM hI why2)
/-! ## what is only read -/
theorem inv_dn {h : ah_T} (hCM : CMp CM) (hI : Inv TX CC CM (n + 1) h) : Inv TX CC CM n h := by
  obtain ⟨hs, A, B0, B1, d, D, wf, tn, im, sc, tp, dr, cc, cm⟩ := hI
  exact ⟨hs, A, B0, B1, d, D, wf, tn, im, sc, tp, dr, cc, hCM.2.1 _ _ _ cm⟩
theorem rel_of (hCM : CMp CM) (a b : Int32) : lw_RC (Inv TX CC CM (n + 1)) (Inv TX CC CM n) mX11_of mX12_of [.int a, .int b] := by
  intro h hI
  have hI' := hI
  obtain ⟨hs, A, B0, B1, d, D, wf, tn, im, sc, tp, dr, cc, cm⟩ := hI'
  obtain ⟨p0, p1, p3, p4, p5⟩ := cp3_m tn.1
  obtain ⟨k1, k2, k3, k4⟩ := tk hs 2 (by omega)
  have q6 := tn.1.2.2.2.2.2
  simp only [Nat.zero_add] at q6
  refine T_X11_of hs a b (c_get hs 2 3 a b k1 k2 k3 p1 p3 (by rw [k4]; show A 245 * 3 ≤ 60; omega) (.inl rfl) (by omega) ⟨_, rfl, hs, _, rfl, hs, ?_⟩)
  have ew : f_X12_isWay h a = if 0 ≤ a ∧ a < nI (A 245) then 1 else 0 := by unfold f_X12_isWay; rw [cl_245, p4, q_has (by omega)]
  refine c_X12_of hs a b (fun c1 c2 => ?_) ⟨_, rfl, ?_, inv_dn hCM hI⟩
  · rw [q_three] at c2
    obtain ⟨k, hk, rfl⟩ := q_isn (n := 3) (by decide) c2
    rw [ew] at c1
    by_cases c : 0 ≤ a ∧ a < nI (A 245)
    · obtain ⟨w, hw, rfl⟩ := q_hasn (by omega) c
      rw [n84 hs, show 0 + 3 * nI w + nI k = nI (3 * w + k) by grind]
      exact (vp_nI (by omega)).mpr (by omega)
    · rw [if_neg c] at c1; exact absurd rfl c1
  · unfold f_X12_of
    rw [ew, q_three]
    by_cases c : 0 ≤ a ∧ a < nI (A 245)
    · rw [if_pos c, if_neg (show ¬ (1 : Int32) = 0 by decide)]
      by_cases c2 : f_X11_isIn b 3 = 0
      · rw [if_pos c2, if_neg]
        intro q
        unfold f_X11_isIn at c2
        have := q.2.2
        rw [show nI 3 = 3 from rfl] at this
        grind
      · obtain ⟨k, hk, rfl⟩ := q_isn (n := 3) (by decide) c2
        obtain ⟨w, hw, rfl⟩ := q_hasn (by omega) c
        rw [if_neg c2, if_pos ⟨c.1, c.2, nI_pos' (by omega), nI_lt hk (by omega)⟩, show 0 + 3 * nI w + nI k = nI (w * 3 + k) by grind, nI_clamp (by omega), nI_clamp (by omega), nI_clamp (by omega), (q6 (w * 3 + k) (by omega)).1, (q6 (w * 3 + k) (by omega)).2.1]
    · rw [if_neg c, if_pos rfl, if_neg (fun q => c ⟨q.1, q.2.1⟩)]
theorem rel_fact (hCM : CMp CM) (a b : Int32) : lw_RC (Inv TX CC CM (n + 1)) (Inv TX CC CM n) mX11_fact mX12_fact [.int a, .int b] := by
  intro h hI
  have hI' := hI
  obtain ⟨hs, A, B0, B1, d, D, wf, tn, im, sc, tp, dr, cc, cm⟩ := hI'
  obtain ⟨p0, p1, p3, p4, p5⟩ := cp3_m tn.2.1
  obtain ⟨k1, k2, k3, k4⟩ := tk hs 4 (by omega)
  have q6 := tn.2.1.2.2.2.2.2
  simp only [Nat.zero_add] at q6
  refine T_X11_fact hs a b (c_get hs 4 5 a b k1 k2 k3 p1 p3 (by rw [k4]; show A 246 * 3 ≤ 30; omega) (.inl rfl) (by omega) ⟨_, rfl, hs, _, rfl, hs, ?_⟩)
  have ew : f_X12_isLamp h a = if 0 ≤ a ∧ a < nI (A 246) then 1 else 0 := by unfold f_X12_isLamp; rw [cl_246, p4, q_has (by omega)]
  refine c_X12_fact hs a b (fun c1 c2 => ?_) ⟨_, rfl, ?_, inv_dn hCM hI⟩
  · rw [q_three] at c2
    obtain ⟨k, hk, rfl⟩ := q_isn (n := 3) (by decide) c2
    rw [ew] at c1
    by_cases c : 0 ≤ a ∧ a < nI (A 246)
    · obtain ⟨w, hw, rfl⟩ := q_hasn (by omega) c
      rw [n84 hs, show 60 + 3 * nI w + nI k = nI (60 + (3 * w + k)) by grind]
      exact (vp_nI (by omega)).mpr (by omega)
    · rw [if_neg c] at c1; exact absurd rfl c1
  · unfold f_X12_fact
    rw [ew, q_three]
    by_cases c : 0 ≤ a ∧ a < nI (A 246)
    · rw [if_pos c, if_neg (show ¬ (1 : Int32) = 0 by decide)]
      by_cases c2 : f_X11_isIn b 3 = 0
      · rw [if_pos c2, if_neg]
        intro q
        unfold f_X11_isIn at c2
        have := q.2.2
        rw [show nI 3 = 3 from rfl] at this
        grind
      · obtain ⟨k, hk, rfl⟩ := q_isn (n := 3) (by decide) c2
        obtain ⟨w, hw, rfl⟩ := q_hasn (by omega) c
        rw [if_neg c2, if_pos ⟨c.1, c.2, nI_pos' (by omega), nI_lt hk (by omega)⟩, show 60 + 3 * nI w + nI k = nI (60 + (w * 3 + k)) by grind, nI_clamp (by omega), nI_clamp (by omega), nI_clamp (by omega), (q6 (w * 3 + k) (by omega)).1, (q6 (w * 3 + k) (by omega)).2.1]
    · rw [if_neg c, if_pos rfl, if_neg (fun q => c ⟨q.1, q.2.1⟩)]
theorem rel_ash (hCM : CMp CM) : lw_RC (Inv TX CC CM (n + 1)) (Inv TX CC CM n) mX11_ash mX12_ash [] := by
  intro h hI
  have hI' := hI
  obtain ⟨hs, A, B0, B1, d, D, wf, tn, im, sc, tp, dr, cc, cm⟩ := hI'
  exact c_X11_ash hs ⟨_, rfl, hs, c_X12_ash hs ⟨_, rfl, sc.2.2.2.2.2.2.1, inv_dn hCM hI⟩⟩
theorem rel_fault (hCM : CMp CM) : lw_RC (Inv TX CC CM (n + 1)) (Inv TX CC CM n) mX11_fault mX12_fault [] := by
  intro h hI
  have hI' := hI
  obtain ⟨hs, A, B0, B1, d, D, wf, tn, im, sc, tp, dr, cc, cm⟩ := hI'
  exact c_X11_fault hs ⟨_, rfl, hs, c_X12_fault hs ⟨_, rfl, sc.2.2.2.2.2.2.2.1, inv_dn hCM hI⟩⟩
theorem rel_stopped (hCM : CMp CM) : lw_RC (Inv TX CC CM (n + 1)) (Inv TX CC CM n) mX11_stopped mX12_stopped [] := by
  intro h hI
  have hI' := hI
  obtain ⟨hs, A, B0, B1, d, D, wf, tn, im, sc, tp, dr, cc, cm⟩ := hI'
  exact c_X11_stopped hs ⟨_, rfl, hs, c_X12_stopped hs ⟨_, rfl, sc.2.2.2.2.2.2.2.2, inv_dn hCM hI⟩⟩
theorem rel_status (hCM : CMp CM) : lw_RC (Inv TX CC CM (n + 1)) (Inv TX CC CM n) mX11_status mX12_status [] := by
  intro h hI
  have hI' := hI
  obtain ⟨hs, A, B0, B1, d, D, wf, tn, im, sc, tp, dr, cc, cm⟩ := hI'
  exact c_X11_status hs ⟨_, rfl, hs, c_X12_status hs ⟨_, rfl, sc.1, inv_dn hCM hI⟩⟩
theorem rel_drawn (hCM : CMp CM) (a : Int32) : lw_RC (Inv TX CC CM (n + 1)) (Inv TX CC CM n) mX11_drawn mX12_drawn [.int a] := by
  intro h hI
  have hI' := hI
  obtain ⟨hs, A, B0, B1, d, D, wf, tn, im, sc, tp, dr, cc, cm⟩ := hI'
  have n19 : ah_n h 19 = 120 := sh_n hs 19 120 (by decide) (by decide) rfl
  have n122 : ah_n h 122 = 120 := sh_n hs 122 120 (by decide) (by decide) rfl
  refine c_X11_drawn hs a (fun c1 _ => ?_) ⟨_, rfl, hs, c_X12_drawn hs a (fun _ c1 => ?_) ⟨_, rfl, ?_, inv_dn hCM hI⟩⟩
  · obtain ⟨k, hk, rfl⟩ := q_isn (n := 120) (by decide) c1
    rw [n19]; exact (vp_nI (by omega)).mpr hk
  · rw [q_minute] at c1
    obtain ⟨k, hk, rfl⟩ := q_isn (n := 120) (by decide) c1
    rw [n122]; exact (vp_nI (by omega)).mpr hk
  · unfold f_X11_drawn f_X12_drawn
    rw [q_minute, show Int32.toNatClampNeg 0 = 0 from rfl]
    by_cases c1 : f_X11_isIn a 120 = 0
    · rw [if_pos c1, if_pos c1]
      split <;> rfl
    · rw [if_neg c1, if_neg c1]
      obtain ⟨k, hk, rfl⟩ := q_isn (n := 120) (by decide) c1
      rcases dr with ⟨d1, d2⟩ | ⟨d1, d2⟩
      · rw [if_pos d2, if_pos d1]
      · obtain ⟨p, hp, e1, e2⟩ := d2 0 (by decide)
        obtain ⟨r, hr, e3, e4⟩ := d2 k hk
        rw [if_neg (by rw [e1]; exact nI_m1 (by omega)), if_neg (by rw [d1]; decide), nI_clamp (by omega), e3, e4]
end RW
