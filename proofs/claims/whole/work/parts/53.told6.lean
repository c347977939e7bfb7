/-! ===== told: facts of lamps, terms, the law in force, what goes ===== -/
section RW
variable {TX : ah_T → Nat → (Nat → Nat) → (Nat → Nat) → Nat → Prop} {CC : (Nat → Nat) → ah_T → Prop} {CM : Nat → (Nat → Nat) → ah_T → Prop} {n : Nat}
theorem qf_case {x v : Int32} (c : ¬ f_X12_isFact x v = 0) : ∃ k y, k < 3 ∧ x = nI k ∧ v = nI y ∧ y < 256 ∧ ((k = 0 ∧ y < 12) ∨ (k = 1 ∧ y < 6) ∨ (k = 2 ∧ 1 ≤ y ∧ y ≤ 240)) := by
  by_cases e0 : x = 0
  · subst e0
    rw [qf0] at c
    obtain ⟨y, hy, rfl⟩ := q_isn (n := 12) (by decide) c
    exact ⟨0, y, by decide, rfl, rfl, by omega, .inl ⟨rfl, hy⟩⟩
  by_cases e1 : x = 1
  · subst e1
    rw [qf1] at c
    obtain ⟨y, hy, rfl⟩ := q_isn (n := 6) (by decide) c
    exact ⟨1, y, by decide, rfl, rfl, by omega, .inr (.inl ⟨rfl, hy⟩)⟩
  by_cases e2 : x = 2
  · subst e2
    rw [qf2] at c
    have c1 : ¬ v < 1 := fun q => c (if_pos q)
    rw [if_neg c1] at c
    have c2 : ¬ 240 < v := fun q => c (if_pos q)
    obtain ⟨y, hy1, hy2, rfl⟩ := q_240 c1 (by grind)
    exact ⟨2, y, by decide, rfl, rfl, by omega, .inr (.inr ⟨rfl, hy1, hy2⟩)⟩
  · exfalso
    apply c
    unfold f_X12_isFact
    rw [if_neg e0, if_neg e1, if_neg e2]
theorem rel_put (hTX : TXp TX) (hCC : CCp CC) (hCM : CMp CM) (a b c : Int32) : lw_RC (Inv TX CC CM (n + 1)) (Inv TX CC CM n) mX11_put mX12_put [.int a, .int b, .int c] := by
  intro h hI
  have hI' := hI
  obtain ⟨hs, A, B0, B1, d, D, wf, tn, im, sc, tp, dr, cc, cm⟩ := hI'
  refine T_X11_put hs a b c (c_isFact hs b c ⟨_, rfl, hs, ?_⟩)
  by_cases c1 : f_X12_isFact b c = 0
  · (first | refine ⟨fun _ => ?_, fun n_ => absurd (c1) n_⟩ | refine ⟨fun n_ => absurd (c1) n_, fun _ => ?_⟩ | refine ⟨fun y_ => absurd y_ (c1), fun _ => ?_⟩ | refine ⟨fun _ => ?_, fun y_ => absurd y_ (c1)⟩)
    refine rl_rf hs why1 (T_X12_put (sh_cRf hs) a b c ?_)
    (first | refine ⟨fun _ => ?_, fun n_ => absurd (c1) n_⟩ | refine ⟨fun n_ => absurd (c1) n_, fun _ => ?_⟩ | refine ⟨fun y_ => absurd y_ (c1), fun _ => ?_⟩ | refine ⟨fun _ => ?_, fun y_ => absurd y_ (c1)⟩)
    exact rl_mf hTX hCC hCM hI why1
  (first | refine ⟨fun _ => ?_, fun n_ => absurd (c1) n_⟩ | refine ⟨fun n_ => absurd (c1) n_, fun _ => ?_⟩ | refine ⟨fun y_ => absurd y_ (c1), fun _ => ?_⟩ | refine ⟨fun _ => ?_, fun y_ => absurd y_ (c1)⟩)
  obtain ⟨p0, p1, p3, p4, p5⟩ := cp3_m tn.2.1
  have isl : ∀ h', (∀ j, ah_i h' 84 j = ah_i h 84 j) → f_X12_isLamp h' a = if 0 ≤ a ∧ a < nI (A 246) then 1 else 0 := fun h' e => by unfold f_X12_isLamp; rw [cl_246, e, p4, q_has (by omega)]
  refine c_has3 hs (.inr (.inl rfl)) p3 (by omega) (fun w hw ew => ?_) (fun c3 => ?_)
  · refine ⟨_, rfl, hs, ?_⟩
    (first | refine ⟨fun _ => ?_, fun n_ => absurd (show ¬ (1 : Int32) = 0 by decide) n_⟩ | refine ⟨fun n_ => absurd (show ¬ (1 : Int32) = 0 by decide) n_, fun _ => ?_⟩ | refine ⟨fun y_ => absurd y_ (show ¬ (1 : Int32) = 0 by decide), fun _ => ?_⟩ | refine ⟨fun _ => ?_, fun y_ => absurd y_ (show ¬ (1 : Int32) = 0 by decide)⟩)
    rintro h6 rfl
    obtain ⟨k1, k2, k3, k4⟩ := tk hs 4 (by omega)
    have hin : 0 ≤ a ∧ a < nI (A 246) := by subst ew; grind
    obtain ⟨k, y, hk, rfl, rfl, hy, hky⟩ := qf_case c1
    subst ew
    have q6 := tn.2.1.2.2.2.2.2 (w * 3 + k) (by omega)
    simp only [Nat.zero_add] at q6
    refine c_swap (sh_si hs) 4 5 _ _ _ w k rfl rfl k1 k2 k3 (n := A 246) (w := 3) p1 p3 (by rw [show ah_n (ah_si h 0 18 1) 5 = ah_n h 5 from rfl, k4]; show A 246 * 3 ≤ 30; omega) (.inl rfl) (by omega) hw hk ⟨_, rfl, sh_si (sh_si hs), ?_⟩
    refine rl_ch (sh_si (sh_si hs)) ?_
    have hs2 : Sh (chg (ah_si (ah_si h 0 18 1) 5 (w * 3 + k) (nI y))) := sh_chg (sh_si (sh_si hs))
    have e84 : ∀ j, ah_i (chg (ah_si (ah_si h 0 18 1) 5 (w * 3 + k) (nI y))) 84 j = ah_i h 84 j := fun j => by rw [chg_i (by decide), ah_i_sn (by omega), ah_i_sn (by omega)]
    refine T_X12_put hs2 _ _ _ ?_
    (first | refine ⟨fun _ => ?_, fun n_ => absurd (c1) n_⟩ | refine ⟨fun n_ => absurd (c1) n_, fun _ => ?_⟩ | refine ⟨fun y_ => absurd y_ (c1), fun _ => ?_⟩ | refine ⟨fun _ => ?_, fun y_ => absurd y_ (c1)⟩)
    rw [isl _ e84, if_pos hin]
    (first | refine ⟨fun _ => ?_, fun n_ => absurd (show ¬ (1 : Int32) = 0 by decide) n_⟩ | refine ⟨fun n_ => absurd (show ¬ (1 : Int32) = 0 by decide) n_, fun _ => ?_⟩ | refine ⟨fun y_ => absurd y_ (show ¬ (1 : Int32) = 0 by decide), fun _ => ?_⟩ | refine ⟨fun _ => ?_, fun y_ => absurd y_ (show ¬ (1 : Int32) = 0 by decide)⟩)
    refine rl_rpg hs2 (60 + (w * 3 + k)) (by grind) (by omega) ?_ ?_
    · rw [e84, q6.2.1, ah_i_sn (by omega)]
      exact q6.1
    · have e0 : ah_si h 0 18 1 = h ∨ ah_si h 0 18 1 = ah_si h 0 18 1 := .inr rfl
      have o : ot (fun a => a = 5) (fun i => i = 60 + (w * 3 + k)) A (up A (60 + (w * 3 + k)) y) h (fS (ah_si h 0 18 1) 5 (w * 3 + k) (nI y) (60 + (w * 3 + k)) (nI y)) := ot_S e0 (by decide) (by decide)
      obtain ⟨q1, q2, q3, q4, q5, q6', q7, q8⟩ := tn
      obtain ⟨w1, ⟨a1, a2⟩, w3, w4, w5, w6, w7, w8⟩ := wf
      have wfn : WF (up A (60 + (w * 3 + k)) y) := by
        refine ⟨wfW_fr (fun j _ => up_n (by omega)) (up_n (by omega)) w1, ⟨by rw [up_n (by omega)]; exact a1, fun v hv => ?_⟩, wfS_fr (fun j _ _ => up_n (by omega)) (up_n (by omega)) (by rw [up_n (by omega)]; omega) w3, wfN_fr (fun j _ _ => up_n (by omega)) (up_n (by omega)) w4, wfE_fr (fun j _ _ => up_n (by omega)) (up_n (by omega)) w5, wfO_fr (fun j _ _ => up_n (by omega)) (up_n (by omega)) (by rw [up_n (by omega)]; omega) w6, wfT_fr (fun j _ _ => up_n (by omega)) w7, wfX_fr (fun j _ _ => up_n (by omega)) w8⟩
        rw [up_n (i := 246) (by omega)] at hv
        have := a2 v hv
        unfold up
        clear o q1 q2 q3 q4 q5 q6' q7 q8 w1 w3 w4 w5 w6 w7 w8 a2
        refine ⟨?_, ?_, ?_, ?_⟩ <;> split <;> omega
      refine inv_told hTX hCC hCM (sh_fS e0 hs) im sc tp dr cc cm wfn ?_ (tl_S e0 (by decide) (by decide)) (.inl (by rw [fS_18 (by decide)]; exact ah_i_ss))
      exact ⟨ot_3 o (by omega) (by omega) (by omega) (by omega) (by omega) (by omega) (fun j hj => by omega) q1,
        cp3_set (h := h) (by omega) (by omega) (by omega) (fS_eq e0 (by decide) (by decide) (by decide) (by decide)).1 (fS_c e0 (by decide) (by decide)) (fS_84 e0 (by decide)) q2,
        ot_3 o (by omega) (by omega) (by omega) (by omega) (by omega) (by omega) (fun j hj => by omega) q3,
        ot_L o w4 (by omega) (by omega) (fun j hj => by omega) q4,
        ot_3 o (by omega) (by omega) (by omega) (by omega) (by omega) (by omega) (fun j hj => by omega) q5,
        ot_3 o (by omega) (by omega) (by omega) (by omega) (by omega) (by omega) (fun j hj => by omega) q6',
        ot_T o (by omega) (fun j hj => by omega) q7,
        ot_W o hTX w8 (by omega) (by omega) (fun j hj => by omega) q8⟩
  · refine ⟨_, rfl, hs, ?_⟩
    (first | refine ⟨fun _ => ?_, fun n_ => absurd (show (0 : Int32) = 0 by rfl) n_⟩ | refine ⟨fun n_ => absurd (show (0 : Int32) = 0 by rfl) n_, fun _ => ?_⟩ | refine ⟨fun y_ => absurd y_ (show (0 : Int32) = 0 by rfl), fun _ => ?_⟩ | refine ⟨fun _ => ?_, fun y_ => absurd y_ (show (0 : Int32) = 0 by rfl)⟩)
    have k4 : f_X12_isLamp (cRf h (-2) 1) a = 0 := by rw [isl _ (fun j => rf_84 (by decide) (by decide)), if_neg c3]
    refine rl_rf hs why2 (T_X12_put (sh_cRf hs) a b c ?_)
    (first | refine ⟨fun _ => ?_, fun n_ => absurd (c1) n_⟩ | refine ⟨fun n_ => absurd (c1) n_, fun _ => ?_⟩ | refine ⟨fun y_ => absurd y_ (c1), fun _ => ?_⟩ | refine ⟨fun _ => ?_, fun y_ => absurd y_ (c1)⟩)
    (first | refine ⟨fun _ => ?_, fun n_ => absurd (k4) n_⟩ | refine ⟨fun n_ => absurd (k4) n_, fun _ => ?_⟩ | refine ⟨fun y_ => absurd y_ (k4), fun _ => ?_⟩ | refine ⟨fun _ => ?_, fun y_ => absurd y_ (k4)⟩)
    exact rl_mf hTX hCC hCM hI why2
theorem rel_terms (hTX : TXp TX) (hCC : CCp CC) (hCM : CMp CM) (a b : Int32) : lw_RC (Inv TX CC CM (n + 1)) (Inv TX CC CM n) mX11_terms mX12_terms [.int a, .int b] := by
  intro h hI
  have hI' := hI
  obtain ⟨hs, A, B0, B1, d, D, wf, tn, im, sc, tp, dr, cc, cm⟩ := hI'
  refine T_X11_terms hs a b ?_
  by_cases c1 : f_X11_isIn a 3 = 0
  · (first | refine ⟨fun _ => ?_, fun n_ => absurd (c1) n_⟩ | refine ⟨fun n_ => absurd (c1) n_, fun _ => ?_⟩ | refine ⟨fun y_ => absurd y_ (c1), fun _ => ?_⟩ | refine ⟨fun _ => ?_, fun y_ => absurd y_ (c1)⟩)
    (refine rl_rf hs why1 (T_X12_terms (sh_cRf hs) a b ?_); try simp only [q_corner, q_kind, q_minute, q_two, q_three, q_ten, qf0, qf1, qf2]; (first | refine ⟨fun _ => ?_, fun n_ => absurd (c1) n_⟩ | refine ⟨fun n_ => absurd (c1) n_, fun _ => ?_⟩ | refine ⟨fun y_ => absurd y_ (c1), fun _ => ?_⟩ | refine ⟨fun _ => ?_, fun y_ => absurd y_ (c1)⟩); exact rl_mf hTX hCC hCM hI why1)
  (first | refine ⟨fun _ => ?_, fun n_ => absurd (c1) n_⟩ | refine ⟨fun n_ => absurd (c1) n_, fun _ => ?_⟩ | refine ⟨fun y_ => absurd y_ (c1), fun _ => ?_⟩ | refine ⟨fun _ => ?_, fun y_ => absurd y_ (c1)⟩)
  by_cases c2 : f_X11_isIn b 10 = 0
  · (first | refine ⟨fun _ => ?_, fun n_ => absurd (c2) n_⟩ | refine ⟨fun n_ => absurd (c2) n_, fun _ => ?_⟩ | refine ⟨fun y_ => absurd y_ (c2), fun _ => ?_⟩ | refine ⟨fun _ => ?_, fun y_ => absurd y_ (c2)⟩)
    refine rl_rf hs why1 (T_X12_terms (sh_cRf hs) a b ?_)
    simp only [q_three, q_ten]
    (first | refine ⟨fun _ => ?_, fun n_ => absurd (c1) n_⟩ | refine ⟨fun n_ => absurd (c1) n_, fun _ => ?_⟩ | refine ⟨fun y_ => absurd y_ (c1), fun _ => ?_⟩ | refine ⟨fun _ => ?_, fun y_ => absurd y_ (c1)⟩)
    by_cases c3 : a = 1
    · (first | refine ⟨fun _ => ?_, fun n_ => absurd (c3) n_⟩ | refine ⟨fun n_ => absurd (c3) n_, fun _ => ?_⟩ | refine ⟨fun y_ => absurd y_ (c3), fun _ => ?_⟩ | refine ⟨fun _ => ?_, fun y_ => absurd y_ (c3)⟩)
      have k3 : f_X12_lies b 1 9 = 0 := by unfold f_X11_isIn at c2; unfold f_X12_lies; grind
      (first | refine ⟨fun _ => ?_, fun n_ => absurd (k3) n_⟩ | refine ⟨fun n_ => absurd (k3) n_, fun _ => ?_⟩ | refine ⟨fun y_ => absurd y_ (k3), fun _ => ?_⟩ | refine ⟨fun _ => ?_, fun y_ => absurd y_ (k3)⟩)
      exact rl_mf hTX hCC hCM hI why1
    · (first | refine ⟨fun _ => ?_, fun n_ => absurd (c3) n_⟩ | refine ⟨fun n_ => absurd (c3) n_, fun _ => ?_⟩ | refine ⟨fun y_ => absurd y_ (c3), fun _ => ?_⟩ | refine ⟨fun _ => ?_, fun y_ => absurd y_ (c3)⟩)
      (first | refine ⟨fun _ => ?_, fun n_ => absurd (c2) n_⟩ | refine ⟨fun n_ => absurd (c2) n_, fun _ => ?_⟩ | refine ⟨fun y_ => absurd y_ (c2), fun _ => ?_⟩ | refine ⟨fun _ => ?_, fun y_ => absurd y_ (c2)⟩)
      exact rl_mf hTX hCC hCM hI why1
  (first | refine ⟨fun _ => ?_, fun n_ => absurd (c2) n_⟩ | refine ⟨fun n_ => absurd (c2) n_, fun _ => ?_⟩ | refine ⟨fun y_ => absurd y_ (c2), fun _ => ?_⟩ | refine ⟨fun _ => ?_, fun y_ => absurd y_ (c2)⟩)
  obtain ⟨k, hk, rfl⟩ := q_isn (n := 3) (by decide) c1
  obtain ⟨y, hy, rfl⟩ := q_isn (n := 10) (by decide) c2
  have hn14 : ah_n h 14 = 3 := sh_n hs 14 3 (by decide) (by decide) rfl
  have vin : vp_in (nI k) (ah_n h 14) := by rw [hn14]; exact (vp_nI (by omega)).mpr hk
  have q6 := tn.2.2.2.2.2.2.1 k hk
  simp only [Nat.zero_add] at q6
  have fin : (k = 1 → 1 ≤ y) → Mt mX11_change [.ref 0, .int (ah_i h 14 k)] (ah_si h 14 k (nI y)) (ab_qi fun v h1 => Sh h1 ∧ rQ (Inv TX CC CM n) mX12_terms [.ref 82, .int (nI k), .int (nI y)] (some (.int v)) h1) := by
    intro h1y
    refine rl_ch (sh_si hs) ?_
    have hs2 : Sh (chg (ah_si h 14 k (nI y))) := sh_chg (sh_si hs)
    have e84 : ∀ j, ah_i (chg (ah_si h 14 k (nI y))) 84 j = ah_i h 84 j := fun j => by rw [chg_i (by decide), ah_i_sn (by omega)]
    have rest : Mt mX12_replaces [.ref 82, .int (242 + nI k), .int (nI y)] (chg (ah_si h 14 k (nI y))) (ab_qi fun v h1 => Sh h1 ∧ (ab_qi fun w h2 => ah_i h 14 k = w ∧ Inv TX CC CM n h2) (some (.int v)) h1) := by
      refine rl_rpg hs2 (242 + k) (by grind) (by omega) ?_ ?_
      · rw [e84, q6.2]
        exact q6.1
      · have e0 : h = h ∨ h = ah_si h 0 18 1 := .inl rfl
        have o : ot (fun a => a = 14) (fun i => i = 242 + k) A (up A (242 + k) y) h (fS h 14 k (nI y) (242 + k) (nI y)) := ot_S e0 (by decide) (by decide)
        obtain ⟨q1, q2, q3, q4, q5, q6', q7, q8⟩ := tn
        obtain ⟨w1, w2, w3, w4, w5, w6, ⟨a1, a2, a3, a4⟩, w8⟩ := wf
        have wfn : WF (up A (242 + k) y) := by
          refine ⟨wfW_fr (fun j _ => up_n (by omega)) (up_n (by omega)) w1, wfL_fr (fun j _ _ => up_n (by omega)) (up_n (by omega)) w2, wfS_fr (fun j _ _ => up_n (by omega)) (up_n (by omega)) (by rw [up_n (by omega)]; omega) w3, wfN_fr (fun j _ _ => up_n (by omega)) (up_n (by omega)) w4, wfE_fr (fun j _ _ => up_n (by omega)) (up_n (by omega)) w5, wfO_fr (fun j _ _ => up_n (by omega)) (up_n (by omega)) (by rw [up_n (by omega)]; omega) w6, ?_, wfX_fr (fun j _ _ => up_n (by omega)) w8⟩
          unfold wfT up
          clear o q1 q2 q3 q4 q5 q6' q7 q8 w1 w2 w3 w4 w5 w6 w8
          refine ⟨?_, ?_, ?_, ?_⟩ <;> split <;> omega
        refine inv_told hTX hCC hCM (sh_fS e0 hs) im sc tp dr cc cm wfn ?_ (tl_S e0 (by decide) (by decide)) (.inr ⟨by rw [fS_18 (by decide)], fun j hj => up_n (by omega), up_n (by omega), up_n (by omega)⟩)
        exact ⟨ot_3 o (by omega) (by omega) (by omega) (by omega) (by omega) (by omega) (fun j hj => by omega) q1,
          ot_3 o (by omega) (by omega) (by omega) (by omega) (by omega) (by omega) (fun j hj => by omega) q2,
          ot_3 o (by omega) (by omega) (by omega) (by omega) (by omega) (by omega) (fun j hj => by omega) q3,
          ot_L o w4 (by omega) (by omega) (fun j hj => by omega) q4,
          ot_3 o (by omega) (by omega) (by omega) (by omega) (by omega) (by omega) (fun j hj => by omega) q5,
          ot_3 o (by omega) (by omega) (by omega) (by omega) (by omega) (by omega) (fun j hj => by omega) q6',
          fun i hi => by
            have q := q7 i hi
            simp only [Nat.zero_add] at q
            rw [Nat.zero_add, fS_84 e0 (by decide), fS_c e0 (by decide) (by decide)]
            by_cases ei : i = k
            · subst ei
              rw [if_pos rfl, if_pos rfl, up_s]
              exact ⟨rfl, rfl⟩
            · rw [if_neg ei, if_neg (by omega), up_n (by omega)]
              exact q,
          ot_W o hTX w8 (by omega) (by omega) (fun j hj => by omega) q8⟩
    refine T_X12_terms hs2 _ _ ?_
    simp only [q_three, q_ten]
    (first | refine ⟨fun _ => ?_, fun n_ => absurd (c1) n_⟩ | refine ⟨fun n_ => absurd (c1) n_, fun _ => ?_⟩ | refine ⟨fun y_ => absurd y_ (c1), fun _ => ?_⟩ | refine ⟨fun _ => ?_, fun y_ => absurd y_ (c1)⟩)
    by_cases c3 : nI k = 1
    · (first | refine ⟨fun _ => ?_, fun n_ => absurd (c3) n_⟩ | refine ⟨fun n_ => absurd (c3) n_, fun _ => ?_⟩ | refine ⟨fun y_ => absurd y_ (c3), fun _ => ?_⟩ | refine ⟨fun _ => ?_, fun y_ => absurd y_ (c3)⟩)
      have ek : k = 1 := (nI_eq (a := k) (b := 1) (by omega) (by omega)).mp c3
      have k3 : ¬ f_X12_lies (nI y) 1 9 = 0 := by have := h1y ek; unfold f_X12_lies; grind
      (first | refine ⟨fun _ => ?_, fun n_ => absurd (k3) n_⟩ | refine ⟨fun n_ => absurd (k3) n_, fun _ => ?_⟩ | refine ⟨fun y_ => absurd y_ (k3), fun _ => ?_⟩ | refine ⟨fun _ => ?_, fun y_ => absurd y_ (k3)⟩)
      exact rest
    · (first | refine ⟨fun _ => ?_, fun n_ => absurd (c3) n_⟩ | refine ⟨fun n_ => absurd (c3) n_, fun _ => ?_⟩ | refine ⟨fun y_ => absurd y_ (c3), fun _ => ?_⟩ | refine ⟨fun _ => ?_, fun y_ => absurd y_ (c3)⟩)
      (first | refine ⟨fun _ => ?_, fun n_ => absurd (c2) n_⟩ | refine ⟨fun n_ => absurd (c2) n_, fun _ => ?_⟩ | refine ⟨fun y_ => absurd y_ (c2), fun _ => ?_⟩ | refine ⟨fun _ => ?_, fun y_ => absurd y_ (c2)⟩)
      exact rest
  by_cases c3 : nI k = 1
  · (first | refine ⟨fun _ => ?_, fun n_ => absurd (c3) n_⟩ | refine ⟨fun n_ => absurd (c3) n_, fun _ => ?_⟩ | refine ⟨fun y_ => absurd y_ (c3), fun _ => ?_⟩ | refine ⟨fun _ => ?_, fun y_ => absurd y_ (c3)⟩)
    have ek : k = 1 := (nI_eq (a := k) (b := 1) (by omega) (by omega)).mp c3
    by_cases c4 : nI y = 0
    · (first | refine ⟨fun _ => ?_, fun n_ => absurd (c4) n_⟩ | refine ⟨fun n_ => absurd (c4) n_, fun _ => ?_⟩ | refine ⟨fun y_ => absurd y_ (c4), fun _ => ?_⟩ | refine ⟨fun _ => ?_, fun y_ => absurd y_ (c4)⟩)
      refine rl_rf hs why1 (T_X12_terms (sh_cRf hs) _ _ ?_)
      simp only [q_three, q_ten]
      have k3 : f_X12_lies (nI y) 1 9 = 0 := by rw [c4]; rfl
      (first | refine ⟨fun _ => ?_, fun n_ => absurd (c1) n_⟩ | refine ⟨fun n_ => absurd (c1) n_, fun _ => ?_⟩ | refine ⟨fun y_ => absurd y_ (c1), fun _ => ?_⟩ | refine ⟨fun _ => ?_, fun y_ => absurd y_ (c1)⟩)
      (first | refine ⟨fun _ => ?_, fun n_ => absurd (c3) n_⟩ | refine ⟨fun n_ => absurd (c3) n_, fun _ => ?_⟩ | refine ⟨fun y_ => absurd y_ (c3), fun _ => ?_⟩ | refine ⟨fun _ => ?_, fun y_ => absurd y_ (c3)⟩)
      (first | refine ⟨fun _ => ?_, fun n_ => absurd (k3) n_⟩ | refine ⟨fun n_ => absurd (k3) n_, fun _ => ?_⟩ | refine ⟨fun y_ => absurd y_ (k3), fun _ => ?_⟩ | refine ⟨fun _ => ?_, fun y_ => absurd y_ (k3)⟩)
      exact rl_mf hTX hCC hCM hI why1
    · (first | refine ⟨fun _ => ?_, fun n_ => absurd (c4) n_⟩ | refine ⟨fun n_ => absurd (c4) n_, fun _ => ?_⟩ | refine ⟨fun y_ => absurd y_ (c4), fun _ => ?_⟩ | refine ⟨fun _ => ?_, fun y_ => absurd y_ (c4)⟩)
      refine ⟨vin, vin, ?_⟩
      rw [nI_clamp (by omega)]
      rintro h12 rfl
      exact fin (fun _ => by rcases Nat.eq_zero_or_pos y with q | q; (subst q; exact absurd rfl c4); exact q)
  · (first | refine ⟨fun _ => ?_, fun n_ => absurd (c3) n_⟩ | refine ⟨fun n_ => absurd (c3) n_, fun _ => ?_⟩ | refine ⟨fun y_ => absurd y_ (c3), fun _ => ?_⟩ | refine ⟨fun _ => ?_, fun y_ => absurd y_ (c3)⟩)
    refine ⟨vin, vin, ?_⟩
    rw [nI_clamp (by omega)]
    rintro h12 rfl
    exact fin (fun q => by subst q; exact absurd rfl c3)
end RW
