/-! ===== told: the law in force, undo, lanterns go, soot goes ===== -/
theorem nO_of {x : Int32} {m : Nat} (hm : m ≤ 1000) (h1 : ¬ x < -1) (h2 : x < nI m) : ∃ v, v ≤ m ∧ x = nO v := by
  obtain ⟨v, hv, e⟩ := nI_of (x := x + 1) (by grind)
  refine ⟨v, by grind, ?_⟩
  unfold nO
  rw [← e]
  grind
section FD
variable {TX : ah_T → Nat → (Nat → Nat) → (Nat → Nat) → Nat → Prop} {A : Nat → Nat} {h : ah_T} {c m : Nat}
def fD (h : ah_T) (c m : Nat) : ah_T := ah_si (ah_si (ah_si (ah_si h c 3 0) 0 19 1) 84 m 0) 82 1 (ah_i h 82 1 + 1)
theorem fD_eq {a : Nat} (n0 : a ≠ 0) (n1 : a ≠ c) (n2 : a ≠ 82) (n3 : a ≠ 84) : eqc h (fD h c m) a := eqc_si (eqc_si (eqc_si (eqc_si eqc_rfl n1) n0) n3) n2
theorem x_fD : ah_x (fD h c m) = ah_x h := by unfold fD; rw [ah_x_si, ah_x_si, ah_x_si, ah_x_si]
theorem sh_fD (hs : Sh h) : Sh (fD h c m) := sh_si (sh_si (sh_si (sh_si hs)))
theorem fD_84 (hc : c ≤ 15) (i : Nat) : ah_i (fD h c m) 84 i = if i = m then 0 else ah_i h 84 i := by
  unfold fD
  rw [ah_i_sn (by omega), ah_i_si, ah_i_sn (by omega), ah_i_sn (by omega)]
  simp only [true_and]
theorem fD_c (hc0 : c ≠ 0) (hc : c ≤ 15) (i : Nat) : ah_i (fD h c m) c i = if i = 3 then 0 else ah_i h c i := by
  unfold fD
  rw [ah_i_sn (by omega), ah_i_sn (by omega), ah_i_sn (by omega), ah_i_si]
  simp only [true_and]
theorem fD_0 (hc0 : c ≠ 0) {i : Nat} : ah_i (fD h c m) 0 i = if i = 19 then 1 else ah_i h 0 i := by
  unfold fD
  rw [ah_i_sn (by omega), ah_i_sn (by omega), ah_i_si, ah_i_sn (by omega)]
  simp only [true_and]
theorem fD_82 (hc : c ≤ 15) {i : Nat} : ah_i (fD h c m) 82 i = if i = 1 then ah_i h 82 1 + 1 else ah_i h 82 i := by
  unfold fD
  rw [ah_i_si, ah_i_sn (by omega), ah_i_sn (by omega), ah_i_sn (by omega)]
  simp only [true_and]
theorem tl_D (hc0 : c ≠ 0) (hc : c ≤ 15) (s : Sc h) : tl h (fD h c m) :=
  ⟨x_fD, fun a h1 h2 h3 => fD_eq (by omega) (by omega) h2 h3, fun j h1 h2 h3 => by rw [fD_0 hc0, if_neg h3], fun j h1 h2 => by rw [fD_82 hc, if_neg h2], by rw [fD_0 hc0, if_pos rfl], by rw [fD_82 hc, if_pos rfl], by rw [fD_0 hc0, if_neg (by decide), fD_82 hc, if_neg (by decide)]; exact s.1⟩
theorem ot_D (hc0 : c ≠ 0) (hc : c ≤ 15) : ot (fun a => a = c) (fun i => i = m) A (up A m 0) h (fD h c m) :=
  ⟨fun a h1 h2 h3 => fD_eq (by omega) h3 (by omega) (by omega), fun a h1 => fD_eq (by omega) (by omega) (by omega) (by omega), x_fD, fun i hi hJ => ⟨by rw [fD_84 hc, if_neg hJ], up_n hJ⟩⟩
theorem m_goAll {Q : Option Value → ah_T → Prop} (hs : Sh h) (x : Int32) (e : x = nI m) (hm : m < 5860) (hq : Q (some (.int (ah_i h 84 m))) (ah_si (ah_si h 84 m 0) 82 1 (ah_i h 82 1 + 1))) : Mt mX12_goAll [.ref 82, .int x] h Q := by
  subst e
  have v : vp_in (nI m) (ah_n h 84) := by rw [n84 hs]; exact (vp_nI (by omega)).mpr hm
  refine T_X12_goAll hs _ ⟨v, v, ?_⟩
  rw [nI_clamp (by omega)]
  rintro h3 rfl
  rintro h6 rfl
  rw [ah_i_sn (h := h) (a := 84) (b := 82) (by omega)]
  exact hq
end FD
section RW
variable {TX : ah_T → Nat → (Nat → Nat) → (Nat → Nat) → Nat → Prop} {CC : (Nat → Nat) → ah_T → Prop} {CM : Nat → (Nat → Nat) → ah_T → Prop} {n : Nat}
theorem rel_doused (hTX : TXp TX) (hCC : CCp CC) (hCM : CMp CM) : lw_RC (Inv TX CC CM (n + 1)) (Inv TX CC CM n) mX11_doused mX12_doused [] := by
  intro h hI
  obtain ⟨hs, A, B0, B1, d, D, wf, tn, im, sc, tp, dr, cc, cm⟩ := hI
  refine T_X11_doused hs ?_
  rintro h1 rfl
  rintro h4 rfl
  refine ⟨_, rfl, sh_si (sh_si hs), T_X12_doused (sh_si (sh_si hs)) (m_goAll (m := 248) (sh_si (sh_si hs)) _ rfl (by decide) ⟨_, rfl, sh_fD hs, ?_⟩)⟩
  rw [ah_i_sn (h := ah_si h 8 3 0) (by omega), ah_i_sn (h := h) (by omega), ah_i_sn (h := ah_si h 8 3 0) (by omega), ah_i_sn (h := h) (by omega)]
  obtain ⟨q1, q2, q3, q4, q5, q6, q7, q8⟩ := tn
  refine ⟨_, rfl, ?_, ?_⟩
  · have e := q4.2.2.2.1
    rw [Nat.zero_add] at e
    rw [e]
    exact q4.2.2.1
  · show Inv TX CC CM n (fD h 8 248)
    obtain ⟨w1, w2, w3, w4, w5, w6, w7, w8⟩ := wf
    have o := ot_D (A := A) (h := h) (c := 8) (m := 248) (by decide) (by decide)
    refine inv_told hTX hCC hCM (sh_fD hs) im sc tp dr cc cm (A' := up A 248 0) ?_ ?_ (tl_D (by decide) (by decide) sc) (.inr ⟨by rw [fD_0 (by decide), if_neg (by decide)], fun j hj => up_n (by omega), up_n (by omega), up_n (by omega)⟩)
    · exact ⟨wfW_fr (fun j _ => up_n (by omega)) (up_n (by omega)) w1, wfL_fr (fun j _ _ => up_n (by omega)) (up_n (by omega)) w2, wfS_fr (fun j _ _ => up_n (by omega)) (up_n (by omega)) (by rw [up_n (by omega)]; omega) w3, ⟨by rw [up_s]; omega, fun l hl => by rw [up_s] at hl; omega⟩, wfE_fr (fun j _ _ => up_n (by omega)) (up_n (by omega)) w5, wfO_fr (fun j _ _ => up_n (by omega)) (up_n (by omega)) (by rw [up_n (by omega)]; omega) w6, wfT_fr (fun j _ _ => up_n (by omega)) w7, wfX_fr (fun j _ _ => up_n (by omega)) w8⟩
    · exact ⟨ot_3 o (by omega) (by omega) (by omega) (by omega) (by omega) (by omega) (fun j hj => by omega) q1,
          ot_3 o (by omega) (by omega) (by omega) (by omega) (by omega) (by omega) (fun j hj => by omega) q2,
          ot_3 o (by omega) (by omega) (by omega) (by omega) (by omega) (by omega) (fun j hj => by omega) q3,
          cpL_cut (fD_c (by decide) (by decide)) (fD_84 (by decide)) q4,
          ot_3 o (by omega) (by omega) (by omega) (by omega) (by omega) (by omega) (fun j hj => by omega) q5,
          ot_3 o (by omega) (by omega) (by omega) (by omega) (by omega) (by omega) (fun j hj => by omega) q6,
          ot_T o (by omega) (fun j hj => by omega) q7,
          ot_W o hTX w8 (by omega) (by omega) (fun j hj => by omega) q8⟩
theorem rel_sweep (hTX : TXp TX) (hCC : CCp CC) (hCM : CMp CM) : lw_RC (Inv TX CC CM (n + 1)) (Inv TX CC CM n) mX11_sweep mX12_sweep [] := by
  intro h hI
  obtain ⟨hs, A, B0, B1, d, D, wf, tn, im, sc, tp, dr, cc, cm⟩ := hI
  refine T_X11_sweep hs ?_
  rintro h1 rfl
  rintro h4 rfl
  refine ⟨_, rfl, sh_si (sh_si hs), T_X12_sweep (sh_si (sh_si hs)) (m_goAll (m := 250) (sh_si (sh_si hs)) _ rfl (by decide) ⟨_, rfl, sh_fD hs, ?_⟩)⟩
  rw [ah_i_sn (h := ah_si h 12 3 0) (by omega), ah_i_sn (h := h) (by omega), ah_i_sn (h := ah_si h 12 3 0) (by omega), ah_i_sn (h := h) (by omega)]
  obtain ⟨q1, q2, q3, q4, q5, q6, q7, q8⟩ := tn
  obtain ⟨p0, p1, p3, p4, p5⟩ := cp3_m q6
  refine ⟨_, rfl, ?_, ?_⟩
  · rw [p4]
    exact p3
  · show Inv TX CC CM n (fD h 12 250)
    obtain ⟨w1, w2, w3, w4, w5, w6, w7, w8⟩ := wf
    have o := ot_D (A := A) (h := h) (c := 12) (m := 250) (by decide) (by decide)
    refine inv_told hTX hCC hCM (sh_fD hs) im sc tp dr cc cm (A' := up A 250 0) ?_ ?_ (tl_D (by decide) (by decide) sc) (.inr ⟨by rw [fD_0 (by decide), if_neg (by decide)], fun j hj => up_n (by omega), up_n (by omega), up_n (by omega)⟩)
    · exact ⟨wfW_fr (fun j _ => up_n (by omega)) (up_n (by omega)) w1, wfL_fr (fun j _ _ => up_n (by omega)) (up_n (by omega)) w2, wfS_fr (fun j _ _ => up_n (by omega)) (up_n (by omega)) (by rw [up_n (by omega)]; omega) w3, wfN_fr (fun j _ _ => up_n (by omega)) (up_n (by omega)) w4, wfE_fr (fun j _ _ => up_n (by omega)) (up_n (by omega)) w5, ⟨by rw [up_s]; omega, fun l hl => by rw [up_s] at hl; omega⟩, wfT_fr (fun j _ _ => up_n (by omega)) w7, wfX_fr (fun j _ _ => up_n (by omega)) w8⟩
    · exact ⟨ot_3 o (by omega) (by omega) (by omega) (by omega) (by omega) (by omega) (fun j hj => by omega) q1,
          ot_3 o (by omega) (by omega) (by omega) (by omega) (by omega) (by omega) (fun j hj => by omega) q2,
          ot_3 o (by omega) (by omega) (by omega) (by omega) (by omega) (by omega) (fun j hj => by omega) q3,
          ot_L o w4 (by omega) (by omega) (fun j hj => by omega) q4,
          ot_3 o (by omega) (by omega) (by omega) (by omega) (by omega) (by omega) (fun j hj => by omega) q5,
          cp3_cut (by omega) (by omega) (fD_c (by decide) (by decide)) (fD_eq (by decide) (by decide) (by decide) (by decide)).1 (fD_84 (by decide)) q6,
          ot_T o (by omega) (fun j hj => by omega) q7,
          ot_W o hTX w8 (by omega) (by omega) (fun j hj => by omega) q8⟩
theorem rel_undo (hTX : TXp TX) (hCC : CCp CC) (hCM : CMp CM) : lw_RC (Inv TX CC CM (n + 1)) (Inv TX CC CM n) mX11_undo mX12_undo [] := by
  intro h hI
  have hI' := hI
  obtain ⟨hs, A, B0, B1, d, D, wf, tn, im, sc, tp, dr, cc, cm⟩ := hI'
  obtain ⟨p0, p1, p3, p4, p5⟩ := cp3_m tn.2.2.1
  refine T_X11_undo hs ?_
  rw [p3]
  rcases Nat.eq_zero_or_pos (A 247) with k | k
  · (first | refine ⟨fun _ => ?_, fun n_ => absurd (show ¬ 0 ≤ nI (A 247) - 1 by rw [k]; decide) n_⟩ | refine ⟨fun n_ => absurd (show ¬ 0 ≤ nI (A 247) - 1 by rw [k]; decide) n_, fun _ => ?_⟩ | refine ⟨fun y_ => absurd y_ (show ¬ 0 ≤ nI (A 247) - 1 by rw [k]; decide), fun _ => ?_⟩ | refine ⟨fun _ => ?_, fun y_ => absurd y_ (show ¬ 0 ≤ nI (A 247) - 1 by rw [k]; decide)⟩)
    refine rl_rf hs why3 (T_X12_undo (sh_cRf hs) ?_)
    rw [cl_247, rf_84 (by decide) (by decide), p4, k]
    (first | refine ⟨fun _ => ?_, fun n_ => absurd (show nI 0 = 0 by rfl) n_⟩ | refine ⟨fun n_ => absurd (show nI 0 = 0 by rfl) n_, fun _ => ?_⟩ | refine ⟨fun y_ => absurd y_ (show nI 0 = 0 by rfl), fun _ => ?_⟩ | refine ⟨fun _ => ?_, fun y_ => absurd y_ (show nI 0 = 0 by rfl)⟩)
    exact rl_mf hTX hCC hCM hI why3
  · obtain ⟨m, hm⟩ : ∃ m, A 247 = m + 1 := ⟨A 247 - 1, by omega⟩
    have e1 : nI (A 247) - 1 = nI m := by rw [hm, nI_pred]
    rw [e1]
    (first | refine ⟨fun _ => ?_, fun n_ => absurd (show 0 ≤ nI m from nI_pos' (by omega)) n_⟩ | refine ⟨fun n_ => absurd (show 0 ≤ nI m from nI_pos' (by omega)) n_, fun _ => ?_⟩ | refine ⟨fun y_ => absurd y_ (show 0 ≤ nI m from nI_pos' (by omega)), fun _ => ?_⟩ | refine ⟨fun _ => ?_, fun y_ => absurd y_ (show 0 ≤ nI m from nI_pos' (by omega))⟩)
    obtain ⟨k1, k2, k3, k4⟩ := tk hs 6 (by omega)
    have q6 := tn.2.2.1.2.2.2.2.2 (m * 3 + 1) (by omega)
    simp only [Nat.zero_add] at q6
    refine c_getN hs 6 7 _ _ m 1 rfl rfl k1 k2 k3 (n := A 247) (w := 3) p1 p3 (by rw [k4]; show A 247 * 3 ≤ 72; omega) (.inl rfl) (by omega) (by omega) (by decide) ⟨_, rfl, hs, ?_⟩
    rintro h5 rfl
    refine rl_ch (sh_si hs) ?_
    have hs2 : Sh (chg (ah_si h 6 3 (nI m))) := sh_chg (sh_si hs)
    have e84 : ∀ j, ah_i (chg (ah_si h 6 3 (nI m))) 84 j = ah_i h 84 j := fun j => by rw [chg_i (by decide), ah_i_sn (by omega)]
    refine T_X12_undo (h := chg (ah_si h 6 3 (nI m))) hs2 ?_
    rw [cl_247, e84, p4]
    (first | refine ⟨fun _ => ?_, fun n_ => absurd (show ¬ nI (A 247) = 0 from nI_ne0 (by omega) (by omega)) n_⟩ | refine ⟨fun n_ => absurd (show ¬ nI (A 247) = 0 from nI_ne0 (by omega) (by omega)) n_, fun _ => ?_⟩ | refine ⟨fun y_ => absurd y_ (show ¬ nI (A 247) = 0 from nI_ne0 (by omega) (by omega)), fun _ => ?_⟩ | refine ⟨fun _ => ?_, fun y_ => absurd y_ (show ¬ nI (A 247) = 0 from nI_ne0 (by omega) (by omega))⟩)
    rw [e1]
    rintro h2 rfl
    rw [ah_i_ss]
    have e5 : 90 + 3 * nI m + 1 = nI (90 + (m * 3 + 1)) := by grind
    rw [e5, nI_clamp (by omega)]
    refine ⟨by rw [ah_n_si, n84 hs2]; exact (vp_nI (by omega)).mpr (by omega), ?_⟩
    have e0 : h = h ∨ h = ah_si h 0 18 1 := .inl rfl
    refine rl_go (sh_si hs2) ?_ ?_
    · rw [ah_i_sn (by omega), e84, q6.2.1]
      exact q6.1
    · have o : ot (fun a => a = 6) (fun i => i = 247) A (up A 247 m) h (fS h 6 3 (nI m) 247 (nI m)) := ot_S e0 (by decide) (by decide)
      obtain ⟨q1, q2, q3, q4, q5, q6', q7, q8⟩ := tn
      obtain ⟨w1, w2, ⟨a1, a2⟩, w4, w5, w6, w7, w8⟩ := wf
      show Inv TX CC CM n (fS h 6 3 (nI m) 247 (nI m))
      refine inv_told hTX hCC hCM (sh_fS e0 hs) im sc tp dr cc cm (A' := up A 247 m) ?_ ?_ (tl_S e0 (by decide) (by decide)) (.inr ⟨by rw [fS_18 (by decide)], fun j hj => up_n (by omega), up_n (by omega), up_n (by omega)⟩)
      · refine ⟨wfW_fr (fun j _ => up_n (by omega)) (up_n (by omega)) w1, wfL_fr (fun j _ _ => up_n (by omega)) (up_n (by omega)) w2, ⟨by rw [up_s]; omega, fun s hs => ?_⟩, wfN_fr (fun j _ _ => up_n (by omega)) (up_n (by omega)) w4, wfE_fr (fun j _ _ => up_n (by omega)) (up_n (by omega)) w5, wfO_fr (fun j _ _ => up_n (by omega)) (up_n (by omega)) (by rw [up_n (by omega)]; omega) w6, wfT_fr (fun j _ _ => up_n (by omega)) w7, wfX_fr (fun j _ _ => up_n (by omega)) w8⟩
        rw [up_s] at hs
        rw [up_n (by omega), up_n (by omega), up_n (by omega), up_n (by omega)]
        exact a2 s (by omega)
      · exact ⟨ot_3 o (by omega) (by omega) (by omega) (by omega) (by omega) (by omega) (fun j hj => by omega) q1,
          ot_3 o (by omega) (by omega) (by omega) (by omega) (by omega) (by omega) (fun j hj => by omega) q2,
          cp3_cut (by omega) (by omega) (fS_c e0 (by decide) (by decide)) (fS_eq e0 (by decide) (by decide) (by decide) (by decide)).1 (fS_84 e0 (by decide)) q3,
          ot_L o w4 (by omega) (by omega) (fun j hj => by omega) q4,
          ot_3 o (by omega) (by omega) (by omega) (by omega) (by omega) (by omega) (fun j hj => by omega) q5,
          ot_3 o (by omega) (by omega) (by omega) (by omega) (by omega) (by omega) (fun j hj => by omega) q6',
          ot_T o (by omega) (fun j hj => by omega) q7,
          ot_W o hTX w8 (by omega) (by omega) (fun j hj => by omega) q8⟩
theorem rel_force (hTX : TXp TX) (hCC : CCp CC) (hCM : CMp CM) (a : Int32) : lw_RC (Inv TX CC CM (n + 1)) (Inv TX CC CM n) mX11_force mX12_force [.int a] := by
  intro h hI
  have hI' := hI
  obtain ⟨hs, A, B0, B1, d, D, wf, tn, im, sc, tp, dr, cc, cm⟩ := hI'
  obtain ⟨u1, u2, u3, u4, u5, u6⟩ := tn.2.2.2.2.2.2.2
  simp only [Nat.zero_add] at u3 u4 u5
  have w8 := wf.2.2.2.2.2.2.2
  have hm6 := w8.1
  refine T_X11_force hs a ?_
  have lz : ∀ h', (∀ j, ah_i h' 84 j = ah_i h 84 j) → f_X12_lies a (-1) (ah_i h' 84 (Int32.toNatClampNeg 251) - 1) = if a < -1 then 0 else if nI (A 251) - 1 < a then 0 else 1 := fun h' e => by unfold f_X12_lies; rw [cl_251, e, u3]
  by_cases c1 : a < -1
  · (first | refine ⟨fun _ => ?_, fun n_ => absurd (c1) n_⟩ | refine ⟨fun n_ => absurd (c1) n_, fun _ => ?_⟩ | refine ⟨fun y_ => absurd y_ (c1), fun _ => ?_⟩ | refine ⟨fun _ => ?_, fun y_ => absurd y_ (c1)⟩)
    refine rl_rf hs why2 (T_X12_force (sh_cRf hs) a ?_)
    rw [lz _ (fun j => rf_84 (by decide) (by decide)), if_pos c1]
    (first | refine ⟨fun _ => ?_, fun n_ => absurd (show (0 : Int32) = 0 by rfl) n_⟩ | refine ⟨fun n_ => absurd (show (0 : Int32) = 0 by rfl) n_, fun _ => ?_⟩ | refine ⟨fun y_ => absurd y_ (show (0 : Int32) = 0 by rfl), fun _ => ?_⟩ | refine ⟨fun _ => ?_, fun y_ => absurd y_ (show (0 : Int32) = 0 by rfl)⟩)
    exact rl_mf hTX hCC hCM hI why2
  (first | refine ⟨fun _ => ?_, fun n_ => absurd (c1) n_⟩ | refine ⟨fun n_ => absurd (c1) n_, fun _ => ?_⟩ | refine ⟨fun y_ => absurd y_ (c1), fun _ => ?_⟩ | refine ⟨fun _ => ?_, fun y_ => absurd y_ (c1)⟩)
  rw [u1]
  by_cases c2 : a < nI (A 251)
  · (first | refine ⟨fun _ => ?_, fun n_ => absurd (c2) n_⟩ | refine ⟨fun n_ => absurd (c2) n_, fun _ => ?_⟩ | refine ⟨fun y_ => absurd y_ (c2), fun _ => ?_⟩ | refine ⟨fun _ => ?_, fun y_ => absurd y_ (c2)⟩)
    rintro h6 rfl
    obtain ⟨v, hv, rfl⟩ := nO_of (by omega) c1 c2
    refine rl_ch (sh_si hs) ?_
    have hs2 : Sh (chg (ah_si h 1 9 (nO v))) := sh_chg (sh_si hs)
    have e84 : ∀ j, ah_i (chg (ah_si h 1 9 (nO v))) 84 j = ah_i h 84 j := fun j => by rw [chg_i (by decide), ah_i_sn (by omega)]
    refine T_X12_force hs2 _ ?_
    rw [lz _ e84, if_neg c1, if_neg (by grind)]
    (first | refine ⟨fun _ => ?_, fun n_ => absurd (show ¬ (1 : Int32) = 0 by decide) n_⟩ | refine ⟨fun n_ => absurd (show ¬ (1 : Int32) = 0 by decide) n_, fun _ => ?_⟩ | refine ⟨fun y_ => absurd y_ (show ¬ (1 : Int32) = 0 by decide), fun _ => ?_⟩ | refine ⟨fun _ => ?_, fun y_ => absurd y_ (show ¬ (1 : Int32) = 0 by decide)⟩)
    refine rl_rpg hs2 252 rfl (by decide) ?_ ?_
    · rw [e84, u4]
      exact u2
    · have e0 : h = h ∨ h = ah_si h 0 18 1 := .inl rfl
      have o : ot (fun a => a = 1) (fun i => i = 252) A (up A 252 v) h (fS h 1 9 (nO v) 252 (nO v)) := ot_S e0 (by decide) (by decide)
      obtain ⟨q1, q2, q3, q4, q5, q6, q7, q8⟩ := tn
      obtain ⟨w1, w2, w3, w4, w5, w6, w7, w8⟩ := wf
      refine inv_told hTX hCC hCM (sh_fS e0 hs) im sc tp dr cc cm (A' := up A 252 v) ?_ ?_ (tl_S e0 (by decide) (by decide)) (.inr ⟨by rw [fS_18 (by decide)], fun j hj => up_n (by omega), up_n (by omega), up_n (by omega)⟩)
      · refine ⟨wfW_fr (fun j _ => up_n (by omega)) (up_n (by omega)) w1, wfL_fr (fun j _ _ => up_n (by omega)) (up_n (by omega)) w2, wfS_fr (fun j _ _ => up_n (by omega)) (up_n (by omega)) (by rw [up_n (by omega)]; omega) w3, wfN_fr (fun j _ _ => up_n (by omega)) (up_n (by omega)) w4, wfE_fr (fun j _ _ => up_n (by omega)) (up_n (by omega)) w5, wfO_fr (fun j _ _ => up_n (by omega)) (up_n (by omega)) (by rw [up_n (by omega)]; omega) w6, wfT_fr (fun j _ _ => up_n (by omega)) w7, ?_⟩
        refine ⟨by rw [up_n (by omega)]; exact w8.1, by rw [up_s, up_n (by omega)]; exact hv, fun t ht => ?_⟩
        rw [up_n (by omega)] at ht
        rw [up_n (by omega)]
        refine ⟨(w8.2.2 t ht).1, fun k hk => ?_⟩
        rw [up_n (by omega), up_n (by omega)]
        exact (w8.2.2 t ht).2 k hk
      · refine ⟨ot_3 o (by omega) (by omega) (by omega) (by omega) (by omega) (by omega) (fun j hj => by omega) q1,
          ot_3 o (by omega) (by omega) (by omega) (by omega) (by omega) (by omega) (fun j hj => by omega) q2,
          ot_3 o (by omega) (by omega) (by omega) (by omega) (by omega) (by omega) (fun j hj => by omega) q3,
          ot_L o w4 (by omega) (by omega) (fun j hj => by omega) q4,
          ot_3 o (by omega) (by omega) (by omega) (by omega) (by omega) (by omega) (fun j hj => by omega) q5,
          ot_3 o (by omega) (by omega) (by omega) (by omega) (by omega) (by omega) (fun j hj => by omega) q6,
          ot_T o (by omega) (fun j hj => by omega) q7, ?_⟩
        have f1 := fS_c (k := 9) (x := nO v) (j := 252) (y := nO v) e0 (show 1 ≠ 0 by decide) (by decide)
        have f84 := fS_84 (c := 1) (k := 9) (x := nO v) (j := 252) (y := nO v) e0 (by decide)
        have f15 := fS_eq (c := 1) (k := 9) (x := nO v) (j := 252) (y := nO v) (a := 15) e0 (by decide) (by decide) (by decide) (by decide)
        unfold cpW
        simp only [Nat.zero_add]
        rw [f1, f1, f84, f84, up_n (i := 251) (by omega), up_s]
        refine ⟨by rw [if_neg (by decide)]; exact u1, by rw [if_pos rfl], by rw [if_neg (by decide)]; exact u3, by rw [if_pos rfl], fun t ht => ?_, lkB_fr f15.2.2.1 (fun x _ _ _ i hi => fS_eq e0 (by omega) (by omega) (by omega) (by omega)) (by rw [x_fS e0]; omega) u6⟩
        obtain ⟨r1, r2, x, r3, r4⟩ := u5 t ht
        have et : up A 252 v (253 + t) = A (253 + t) := up_n (by omega)
        rw [f84, if_neg (by omega), et]
        refine ⟨r1, fun k hk => ?_, x, by rw [show 1 + 14 = 15 from rfl, f15.2.2.1]; exact r3, ?_⟩
        · rw [f84, if_neg (by omega), f84, if_neg (by omega), up_n (by omega), up_n (by omega)]
          exact r2 k hk
        · have f := hTX.2.1 _ _ _ _ _ r4
          refine hTX.2.2 _ _ _ _ _ _ _ (fun k hk => ⟨up_n (by omega), up_n (by omega)⟩) ?_
          exact hTX.1 _ _ _ _ _ _ r4 (fun i hi => fS_eq e0 (by omega) (by omega) (by omega) (by omega)) (by rw [x_fS e0]; omega)
  · (first | refine ⟨fun _ => ?_, fun n_ => absurd (c2) n_⟩ | refine ⟨fun n_ => absurd (c2) n_, fun _ => ?_⟩ | refine ⟨fun y_ => absurd y_ (c2), fun _ => ?_⟩ | refine ⟨fun _ => ?_, fun y_ => absurd y_ (c2)⟩)
    refine rl_rf hs why2 (T_X12_force (sh_cRf hs) a ?_)
    rw [lz _ (fun j => rf_84 (by decide) (by decide)), if_neg c1, if_pos (by grind)]
    (first | refine ⟨fun _ => ?_, fun n_ => absurd (show (0 : Int32) = 0 by rfl) n_⟩ | refine ⟨fun n_ => absurd (show (0 : Int32) = 0 by rfl) n_, fun _ => ?_⟩ | refine ⟨fun y_ => absurd y_ (show (0 : Int32) = 0 by rfl), fun _ => ?_⟩ | refine ⟨fun _ => ?_, fun y_ => absurd y_ (show (0 : Int32) = 0 by rfl)⟩)
    exact rl_mf hTX hCC hCM hI why2
end RW
