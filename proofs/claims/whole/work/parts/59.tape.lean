/-! ===== the tape: end, feed; how many ===== -/
section TP
variable {TX : ah_T → Nat → (Nat → Nat) → (Nat → Nat) → Nat → Prop} {CC : (Nat → Nat) → ah_T → Prop} {CM : Nat → (Nat → Nat) → ah_T → Prop} {A B0 B1 : Nat → Nat} {h h2 : ah_T} {n d d' : Nat} {D D' : Nat → Nat}
/-- only the tapes are others -/
theorem inv_tp (hTX : TXp TX) (hCC : CCp CC) (hCM : CMp CM) (wf : WF A) (tn : Tn TX A h 1 84 0) (im : Im TX B0 B1 h) (sc : Sc h) (dr : Dr h) (cc : CC A h) (cm : CM (n + 1) A h)
    (e : ∀ a, a ≠ 0 → a ≠ 82 → a ≠ 17 → a ≠ 88 → a ≠ 89 → eqc h h2 a) (e0 : ∀ j, j ≠ 13 → ah_i h2 0 j = ah_i h 0 j) (e82 : ∀ j, j ≠ 11 → ah_i h2 82 j = ah_i h 82 j) (ex : ah_x h2 = ah_x h) (hs2 : Sh h2) (tp : Tp d' D' h2) : Inv TX CC CM n h2 := by
  have f18 := (e 18 (by decide) (by decide) (by decide) (by decide) (by decide)).1
  have f83 := (e 83 (by decide) (by decide) (by decide) (by decide) (by decide)).1
  refine ⟨hs2, A, B0, B1, d', D', wf, ?_, ?_, ?_, tp, ?_, ?_, ?_⟩
  · exact Tn_fr wf hTX (fun i hi => e _ (by omega) (by omega) (by omega) (by omega) (by omega)) (e 84 (by decide) (by decide) (by decide) (by decide) (by decide)) (fun x hx _ _ i hi => e _ (by omega) (by omega) (by omega) (by omega) (by omega)) (by omega) tn
  · exact Im_fr hTX (fun a ha _ => e _ (by omega) (by omega) (by omega) (by omega) (by omega)) (e 16 (by decide) (by decide) (by decide) (by decide) (by decide)) (e 85 (by decide) (by decide) (by decide) (by decide) (by decide)) (e 86 (by decide) (by decide) (by decide) (by decide) (by decide)) (by omega) im
  · unfold Sc
    rw [e0 17 (by decide), e0 15 (by decide), e0 14 (by decide), e0 16 (by decide), e82 0 (by decide), e82 6 (by decide), e82 12 (by decide), e82 66 (by decide)]
    simp only [f18, f83]
    exact sc
  · unfold Dr
    rw [e82 77 (by decide)]
    simp only [(e 19 (by decide) (by decide) (by decide) (by decide) (by decide)).1, (e 122 (by decide) (by decide) (by decide) (by decide) (by decide)).1]
    exact dr
  · exact hCC.1 _ _ _ cc (agC_of (fun a h1 h2 => e _ (by omega) (by omega) (by omega) (by omega) (by omega)) (fun a h1 h2 => e _ (by omega) (by omega) (by omega) (by omega) (by omega)) (by omega)) (e0 18 (by decide)) (e0 19 (by decide))
  · exact hCM.2.1 _ _ _ (hCM.1 _ _ _ _ cm ⟨fun a ha => e _ (by omega) (by omega) (by omega) (by omega) (by omega), fun j hj => e82 j (by omega)⟩ (e82 1 (by decide)))
theorem rel_end (hTX : TXp TX) (hCC : CCp CC) (hCM : CMp CM) (a : Int32) : lw_RC (Inv TX CC CM (n + 1)) (Inv TX CC CM n) mX11_end mX12_end [.int a] := by
  intro h hI
  have hI' := hI
  obtain ⟨hs, A, B0, B1, d, D, wf, tn, im, sc, tp, dr, cc, cm⟩ := hI'
  obtain ⟨t1, t2, t3, t4⟩ := tp
  refine T_X11_end hs a ?_
  rw [t2]
  have lz : ∀ h', ah_i h' 82 11 = nI d → f_X12_lies a 0 (ah_i h' 82 11) = if a < 0 then 0 else if nI d < a then 0 else 1 := fun h' e => by unfold f_X12_lies; rw [e]
  by_cases c1 : a < 0
  · (first | refine ⟨fun _ => ?_, fun n_ => absurd (c1) n_⟩ | refine ⟨fun n_ => absurd (c1) n_, fun _ => ?_⟩ | refine ⟨fun y_ => absurd y_ (c1), fun _ => ?_⟩ | refine ⟨fun _ => ?_, fun y_ => absurd y_ (c1)⟩)
    refine ⟨_, rfl, hs, T_X12_end hs a ?_⟩
    rw [lz h t3, if_pos c1]
    (first | refine ⟨fun _ => ?_, fun n_ => absurd (show (0 : Int32) = 0 by rfl) n_⟩ | refine ⟨fun n_ => absurd (show (0 : Int32) = 0 by rfl) n_, fun _ => ?_⟩ | refine ⟨fun y_ => absurd y_ (show (0 : Int32) = 0 by rfl), fun _ => ?_⟩ | refine ⟨fun _ => ?_, fun y_ => absurd y_ (show (0 : Int32) = 0 by rfl)⟩)
    exact ⟨_, rfl, rfl, inv_dn hCM hI⟩
  (first | refine ⟨fun _ => ?_, fun n_ => absurd (c1) n_⟩ | refine ⟨fun n_ => absurd (c1) n_, fun _ => ?_⟩ | refine ⟨fun y_ => absurd y_ (c1), fun _ => ?_⟩ | refine ⟨fun _ => ?_, fun y_ => absurd y_ (c1)⟩)
  by_cases c2 : a ≤ nI d
  · (first | refine ⟨fun _ => ?_, fun n_ => absurd (c2) n_⟩ | refine ⟨fun n_ => absurd (c2) n_, fun _ => ?_⟩ | refine ⟨fun y_ => absurd y_ (c2), fun _ => ?_⟩ | refine ⟨fun _ => ?_, fun y_ => absurd y_ (c2)⟩)
    rintro h3 rfl
    obtain ⟨k, hk, rfl⟩ := nI_of c1
    have hkd : k ≤ d := (nI_leI hk (by omega)).mp c2
    refine ⟨_, rfl, sh_si hs, T_X12_end (sh_si hs) _ ?_⟩
    rw [lz (ah_si h 0 13 (nI k)) (by rw [ah_i_sn (by omega)]; exact t3), if_neg c1, if_neg (by grind)]
    (first | refine ⟨fun _ => ?_, fun n_ => absurd (show ¬ (1 : Int32) = 0 by decide) n_⟩ | refine ⟨fun n_ => absurd (show ¬ (1 : Int32) = 0 by decide) n_, fun _ => ?_⟩ | refine ⟨fun y_ => absurd y_ (show ¬ (1 : Int32) = 0 by decide), fun _ => ?_⟩ | refine ⟨fun _ => ?_, fun y_ => absurd y_ (show ¬ (1 : Int32) = 0 by decide)⟩)
    rintro h2 rfl
    refine ⟨_, rfl, rfl, inv_tp (d' := k) (D' := D) hTX hCC hCM wf tn im sc dr cc cm (fun a h0 h1 _ _ _ => eqc_si (eqc_si eqc_rfl h0) h1) (fun j hj => by rw [ah_i_sn (by omega), ah_i_sn (by omega)]) (fun j hj => by rw [ah_i_sn (by omega), ah_i_sn (by omega)]) rfl (sh_si (sh_si hs)) ⟨by omega, by rw [ah_i_sn (by omega), ah_i_ss], by rw [ah_i_ss], fun j hj => ?_⟩⟩
    rw [ah_i_sn (by omega), ah_i_sn (by omega), ah_i_sn (by omega), ah_i_sn (by omega)]
    exact t4 j (by omega)
  · (first | refine ⟨fun _ => ?_, fun n_ => absurd (c2) n_⟩ | refine ⟨fun n_ => absurd (c2) n_, fun _ => ?_⟩ | refine ⟨fun y_ => absurd y_ (c2), fun _ => ?_⟩ | refine ⟨fun _ => ?_, fun y_ => absurd y_ (c2)⟩)
    refine ⟨_, rfl, hs, T_X12_end hs a ?_⟩
    rw [lz h t3, if_neg c1, if_pos (by grind)]
    (first | refine ⟨fun _ => ?_, fun n_ => absurd (show (0 : Int32) = 0 by rfl) n_⟩ | refine ⟨fun n_ => absurd (show (0 : Int32) = 0 by rfl) n_, fun _ => ?_⟩ | refine ⟨fun y_ => absurd y_ (show (0 : Int32) = 0 by rfl), fun _ => ?_⟩ | refine ⟨fun _ => ?_, fun y_ => absurd y_ (show (0 : Int32) = 0 by rfl)⟩)
    exact ⟨_, rfl, rfl, inv_dn hCM hI⟩
/-! ## how many -/
def cnC (h : ah_T) (x : Int32) : Int32 := if x = 0 then ah_i h 2 3 else if x = 1 then ah_i h 4 3 else if x = 2 then ah_i h 6 3 else if x = 3 then ah_i h 8 3 else if x = 4 then ah_i h 10 3 else if x = 5 then ah_i h 1 8 else if x = 6 then ah_i h 12 3 else if x = 7 then ah_i h 0 13 else if x = 8 then ah_i h 18 0 else if x = 9 then ah_i h 18 1 else if x = 10 then ah_i h 18 2 else if x = 11 then ah_i h 18 3 else if x = 12 then ah_i h 18 4 else if x = 13 then ah_i h 1 9 else if x = 14 then ah_i h 14 0 else if x = 15 then ah_i h 14 1 else if x = 16 then ah_i h 14 2 else -1
def cnM (h : ah_T) (x : Int32) : Int32 := if x = 0 then ah_i h 84 245 else if x = 1 then ah_i h 84 246 else if x = 2 then ah_i h 84 247 else if x = 3 then ah_i h 84 248 else if x = 4 then ah_i h 84 249 else if x = 5 then ah_i h 84 251 else if x = 6 then ah_i h 84 250 else if x = 7 then ah_i h 82 11 else if x = 8 then ah_i h 83 1 else if x = 9 then ah_i h 83 2 else if x = 10 then ah_i h 83 3 else if x = 11 then ah_i h 83 5 else if x = 12 then ah_i h 83 6 else if x = 13 then ah_i h 84 252 else if x = 14 then ah_i h 84 242 else if x = 15 then ah_i h 84 243 else if x = 16 then ah_i h 84 244 else -1
theorem c_count {Q : Option Value → ah_T → Prop} (hs : Sh h) (x : Int32) (hq : Q (some (.int (cnC h x))) h) : Mt mX11_count [.ref 0, .int x] h Q := by
  unfold cnC at hq
  refine T_X11_count hs x ⟨fun e => ?_, fun e => ?_, fun e => ?_, fun e => ?_, fun e => ?_, fun e => ?_, fun e => ?_, fun e => ?_, fun e => ?_, fun e => ?_, fun e => ?_, fun e => ?_, fun e => ?_, fun e => ?_, fun e => ?_, fun e => ?_, fun e => ?_, fun e0 e1 e2 e3 e4 e5 e6 e7 e8 e9 e10 e11 e12 e13 e14 e15 e16 => ?_⟩
  · subst e; rw [if_pos rfl] at hq; exact hq
  · subst e; rw [if_neg (show ¬ (1 : Int32) = 0 by decide), if_pos rfl] at hq; exact hq
  · subst e; rw [if_neg (show ¬ (2 : Int32) = 0 by decide), if_neg (show ¬ (2 : Int32) = 1 by decide), if_pos rfl] at hq; exact hq
  · subst e; rw [if_neg (show ¬ (3 : Int32) = 0 by decide), if_neg (show ¬ (3 : Int32) = 1 by decide), if_neg (show ¬ (3 : Int32) = 2 by decide), if_pos rfl] at hq; exact hq
  · subst e; rw [if_neg (show ¬ (4 : Int32) = 0 by decide), if_neg (show ¬ (4 : Int32) = 1 by decide), if_neg (show ¬ (4 : Int32) = 2 by decide), if_neg (show ¬ (4 : Int32) = 3 by decide), if_pos rfl] at hq; exact hq
  · subst e; rw [if_neg (show ¬ (5 : Int32) = 0 by decide), if_neg (show ¬ (5 : Int32) = 1 by decide), if_neg (show ¬ (5 : Int32) = 2 by decide), if_neg (show ¬ (5 : Int32) = 3 by decide), if_neg (show ¬ (5 : Int32) = 4 by decide), if_pos rfl] at hq; exact hq
  · subst e; rw [if_neg (show ¬ (6 : Int32) = 0 by decide), if_neg (show ¬ (6 : Int32) = 1 by decide), if_neg (show ¬ (6 : Int32) = 2 by decide), if_neg (show ¬ (6 : Int32) = 3 by decide), if_neg (show ¬ (6 : Int32) = 4 by decide), if_neg (show ¬ (6 : Int32) = 5 by decide), if_pos rfl] at hq; exact hq
  · subst e; rw [if_neg (show ¬ (7 : Int32) = 0 by decide), if_neg (show ¬ (7 : Int32) = 1 by decide), if_neg (show ¬ (7 : Int32) = 2 by decide), if_neg (show ¬ (7 : Int32) = 3 by decide), if_neg (show ¬ (7 : Int32) = 4 by decide), if_neg (show ¬ (7 : Int32) = 5 by decide), if_neg (show ¬ (7 : Int32) = 6 by decide), if_pos rfl] at hq; exact hq
  · subst e; rw [if_neg (show ¬ (8 : Int32) = 0 by decide), if_neg (show ¬ (8 : Int32) = 1 by decide), if_neg (show ¬ (8 : Int32) = 2 by decide), if_neg (show ¬ (8 : Int32) = 3 by decide), if_neg (show ¬ (8 : Int32) = 4 by decide), if_neg (show ¬ (8 : Int32) = 5 by decide), if_neg (show ¬ (8 : Int32) = 6 by decide), if_neg (show ¬ (8 : Int32) = 7 by decide), if_pos rfl] at hq; exact ⟨by rw [sh_n hs 18 5 (by decide) (by decide) rfl]; unfold vp_in; decide, hq⟩
  · subst e; rw [if_neg (show ¬ (9 : Int32) = 0 by decide), if_neg (show ¬ (9 : Int32) = 1 by decide), if_neg (show ¬ (9 : Int32) = 2 by decide), if_neg (show ¬ (9 : Int32) = 3 by decide), if_neg (show ¬ (9 : Int32) = 4 by decide), if_neg (show ¬ (9 : Int32) = 5 by decide), if_neg (show ¬ (9 : Int32) = 6 by decide), if_neg (show ¬ (9 : Int32) = 7 by decide), if_neg (show ¬ (9 : Int32) = 8 by decide), if_pos rfl] at hq; exact ⟨by rw [sh_n hs 18 5 (by decide) (by decide) rfl]; unfold vp_in; decide, hq⟩
  · subst e; rw [if_neg (show ¬ (10 : Int32) = 0 by decide), if_neg (show ¬ (10 : Int32) = 1 by decide), if_neg (show ¬ (10 : Int32) = 2 by decide), if_neg (show ¬ (10 : Int32) = 3 by decide), if_neg (show ¬ (10 : Int32) = 4 by decide), if_neg (show ¬ (10 : Int32) = 5 by decide), if_neg (show ¬ (10 : Int32) = 6 by decide), if_neg (show ¬ (10 : Int32) = 7 by decide), if_neg (show ¬ (10 : Int32) = 8 by decide), if_neg (show ¬ (10 : Int32) = 9 by decide), if_pos rfl] at hq; exact ⟨by rw [sh_n hs 18 5 (by decide) (by decide) rfl]; unfold vp_in; decide, hq⟩
  · subst e; rw [if_neg (show ¬ (11 : Int32) = 0 by decide), if_neg (show ¬ (11 : Int32) = 1 by decide), if_neg (show ¬ (11 : Int32) = 2 by decide), if_neg (show ¬ (11 : Int32) = 3 by decide), if_neg (show ¬ (11 : Int32) = 4 by decide), if_neg (show ¬ (11 : Int32) = 5 by decide), if_neg (show ¬ (11 : Int32) = 6 by decide), if_neg (show ¬ (11 : Int32) = 7 by decide), if_neg (show ¬ (11 : Int32) = 8 by decide), if_neg (show ¬ (11 : Int32) = 9 by decide), if_neg (show ¬ (11 : Int32) = 10 by decide), if_pos rfl] at hq; exact ⟨by rw [sh_n hs 18 5 (by decide) (by decide) rfl]; unfold vp_in; decide, hq⟩
  · subst e; rw [if_neg (show ¬ (12 : Int32) = 0 by decide), if_neg (show ¬ (12 : Int32) = 1 by decide), if_neg (show ¬ (12 : Int32) = 2 by decide), if_neg (show ¬ (12 : Int32) = 3 by decide), if_neg (show ¬ (12 : Int32) = 4 by decide), if_neg (show ¬ (12 : Int32) = 5 by decide), if_neg (show ¬ (12 : Int32) = 6 by decide), if_neg (show ¬ (12 : Int32) = 7 by decide), if_neg (show ¬ (12 : Int32) = 8 by decide), if_neg (show ¬ (12 : Int32) = 9 by decide), if_neg (show ¬ (12 : Int32) = 10 by decide), if_neg (show ¬ (12 : Int32) = 11 by decide), if_pos rfl] at hq; exact ⟨by rw [sh_n hs 18 5 (by decide) (by decide) rfl]; unfold vp_in; decide, hq⟩
  · subst e; rw [if_neg (show ¬ (13 : Int32) = 0 by decide), if_neg (show ¬ (13 : Int32) = 1 by decide), if_neg (show ¬ (13 : Int32) = 2 by decide), if_neg (show ¬ (13 : Int32) = 3 by decide), if_neg (show ¬ (13 : Int32) = 4 by decide), if_neg (show ¬ (13 : Int32) = 5 by decide), if_neg (show ¬ (13 : Int32) = 6 by decide), if_neg (show ¬ (13 : Int32) = 7 by decide), if_neg (show ¬ (13 : Int32) = 8 by decide), if_neg (show ¬ (13 : Int32) = 9 by decide), if_neg (show ¬ (13 : Int32) = 10 by decide), if_neg (show ¬ (13 : Int32) = 11 by decide), if_neg (show ¬ (13 : Int32) = 12 by decide), if_pos rfl] at hq; exact hq
  · subst e; rw [if_neg (show ¬ (14 : Int32) = 0 by decide), if_neg (show ¬ (14 : Int32) = 1 by decide), if_neg (show ¬ (14 : Int32) = 2 by decide), if_neg (show ¬ (14 : Int32) = 3 by decide), if_neg (show ¬ (14 : Int32) = 4 by decide), if_neg (show ¬ (14 : Int32) = 5 by decide), if_neg (show ¬ (14 : Int32) = 6 by decide), if_neg (show ¬ (14 : Int32) = 7 by decide), if_neg (show ¬ (14 : Int32) = 8 by decide), if_neg (show ¬ (14 : Int32) = 9 by decide), if_neg (show ¬ (14 : Int32) = 10 by decide), if_neg (show ¬ (14 : Int32) = 11 by decide), if_neg (show ¬ (14 : Int32) = 12 by decide), if_neg (show ¬ (14 : Int32) = 13 by decide), if_pos rfl] at hq; exact ⟨by rw [sh_n hs 14 3 (by decide) (by decide) rfl]; unfold vp_in; decide, hq⟩
  · subst e; rw [if_neg (show ¬ (15 : Int32) = 0 by decide), if_neg (show ¬ (15 : Int32) = 1 by decide), if_neg (show ¬ (15 : Int32) = 2 by decide), if_neg (show ¬ (15 : Int32) = 3 by decide), if_neg (show ¬ (15 : Int32) = 4 by decide), if_neg (show ¬ (15 : Int32) = 5 by decide), if_neg (show ¬ (15 : Int32) = 6 by decide), if_neg (show ¬ (15 : Int32) = 7 by decide), if_neg (show ¬ (15 : Int32) = 8 by decide), if_neg (show ¬ (15 : Int32) = 9 by decide), if_neg (show ¬ (15 : Int32) = 10 by decide), if_neg (show ¬ (15 : Int32) = 11 by decide), if_neg (show ¬ (15 : Int32) = 12 by decide), if_neg (show ¬ (15 : Int32) = 13 by decide), if_neg (show ¬ (15 : Int32) = 14 by decide), if_pos rfl] at hq; exact ⟨by rw [sh_n hs 14 3 (by decide) (by decide) rfl]; unfold vp_in; decide, hq⟩
  · subst e; rw [if_neg (show ¬ (16 : Int32) = 0 by decide), if_neg (show ¬ (16 : Int32) = 1 by decide), if_neg (show ¬ (16 : Int32) = 2 by decide), if_neg (show ¬ (16 : Int32) = 3 by decide), if_neg (show ¬ (16 : Int32) = 4 by decide), if_neg (show ¬ (16 : Int32) = 5 by decide), if_neg (show ¬ (16 : Int32) = 6 by decide), if_neg (show ¬ (16 : Int32) = 7 by decide), if_neg (show ¬ (16 : Int32) = 8 by decide), if_neg (show ¬ (16 : Int32) = 9 by decide), if_neg (show ¬ (16 : Int32) = 10 by decide), if_neg (show ¬ (16 : Int32) = 11 by decide), if_neg (show ¬ (16 : Int32) = 12 by decide), if_neg (show ¬ (16 : Int32) = 13 by decide), if_neg (show ¬ (16 : Int32) = 14 by decide), if_neg (show ¬ (16 : Int32) = 15 by decide), if_pos rfl] at hq; exact ⟨by rw [sh_n hs 14 3 (by decide) (by decide) rfl]; unfold vp_in; decide, hq⟩
  · rw [if_neg e0, if_neg e1, if_neg e2, if_neg e3, if_neg e4, if_neg e5, if_neg e6, if_neg e7, if_neg e8, if_neg e9, if_neg e10, if_neg e11, if_neg e12, if_neg e13, if_neg e14, if_neg e15, if_neg e16] at hq; exact hq
theorem m_count {Q : Option Value → ah_T → Prop} (hs : Sh h) (x : Int32) (hq : Q (some (.int (cnM h x))) h) : Mt mX12_count [.ref 82, .int x] h Q := by
  unfold cnM at hq
  refine T_X12_count hs x ⟨fun e => ?_, fun e => ?_, fun e => ?_, fun e => ?_, fun e => ?_, fun e => ?_, fun e => ?_, fun e => ?_, fun e => ?_, fun e => ?_, fun e => ?_, fun e => ?_, fun e => ?_, fun e => ?_, fun e => ?_, fun e => ?_, fun e => ?_, fun e0 e1 e2 e3 e4 e5 e6 e7 e8 e9 e10 e11 e12 e13 e14 e15 e16 => ?_⟩
  · subst e; rw [if_pos rfl] at hq; exact ⟨by rw [sh_n hs 84 5860 (by decide) (by decide) rfl]; unfold vp_in; decide, hq⟩
  · subst e; rw [if_neg (show ¬ (1 : Int32) = 0 by decide), if_pos rfl] at hq; exact ⟨by rw [sh_n hs 84 5860 (by decide) (by decide) rfl]; unfold vp_in; decide, hq⟩
  · subst e; rw [if_neg (show ¬ (2 : Int32) = 0 by decide), if_neg (show ¬ (2 : Int32) = 1 by decide), if_pos rfl] at hq; exact ⟨by rw [sh_n hs 84 5860 (by decide) (by decide) rfl]; unfold vp_in; decide, hq⟩
  · subst e; rw [if_neg (show ¬ (3 : Int32) = 0 by decide), if_neg (show ¬ (3 : Int32) = 1 by decide), if_neg (show ¬ (3 : Int32) = 2 by decide), if_pos rfl] at hq; exact ⟨by rw [sh_n hs 84 5860 (by decide) (by decide) rfl]; unfold vp_in; decide, hq⟩
  · subst e; rw [if_neg (show ¬ (4 : Int32) = 0 by decide), if_neg (show ¬ (4 : Int32) = 1 by decide), if_neg (show ¬ (4 : Int32) = 2 by decide), if_neg (show ¬ (4 : Int32) = 3 by decide), if_pos rfl] at hq; exact ⟨by rw [sh_n hs 84 5860 (by decide) (by decide) rfl]; unfold vp_in; decide, hq⟩
  · subst e; rw [if_neg (show ¬ (5 : Int32) = 0 by decide), if_neg (show ¬ (5 : Int32) = 1 by decide), if_neg (show ¬ (5 : Int32) = 2 by decide), if_neg (show ¬ (5 : Int32) = 3 by decide), if_neg (show ¬ (5 : Int32) = 4 by decide), if_pos rfl] at hq; exact hq
  · subst e; rw [if_neg (show ¬ (6 : Int32) = 0 by decide), if_neg (show ¬ (6 : Int32) = 1 by decide), if_neg (show ¬ (6 : Int32) = 2 by decide), if_neg (show ¬ (6 : Int32) = 3 by decide), if_neg (show ¬ (6 : Int32) = 4 by decide), if_neg (show ¬ (6 : Int32) = 5 by decide), if_pos rfl] at hq; exact hq
  · subst e; rw [if_neg (show ¬ (7 : Int32) = 0 by decide), if_neg (show ¬ (7 : Int32) = 1 by decide), if_neg (show ¬ (7 : Int32) = 2 by decide), if_neg (show ¬ (7 : Int32) = 3 by decide), if_neg (show ¬ (7 : Int32) = 4 by decide), if_neg (show ¬ (7 : Int32) = 5 by decide), if_neg (show ¬ (7 : Int32) = 6 by decide), if_pos rfl] at hq; exact hq
  · subst e; rw [if_neg (show ¬ (8 : Int32) = 0 by decide), if_neg (show ¬ (8 : Int32) = 1 by decide), if_neg (show ¬ (8 : Int32) = 2 by decide), if_neg (show ¬ (8 : Int32) = 3 by decide), if_neg (show ¬ (8 : Int32) = 4 by decide), if_neg (show ¬ (8 : Int32) = 5 by decide), if_neg (show ¬ (8 : Int32) = 6 by decide), if_neg (show ¬ (8 : Int32) = 7 by decide), if_pos rfl] at hq; exact ⟨by rw [sh_n hs 83 7 (by decide) (by decide) rfl]; unfold vp_in; decide, hq⟩
  · subst e; rw [if_neg (show ¬ (9 : Int32) = 0 by decide), if_neg (show ¬ (9 : Int32) = 1 by decide), if_neg (show ¬ (9 : Int32) = 2 by decide), if_neg (show ¬ (9 : Int32) = 3 by decide), if_neg (show ¬ (9 : Int32) = 4 by decide), if_neg (show ¬ (9 : Int32) = 5 by decide), if_neg (show ¬ (9 : Int32) = 6 by decide), if_neg (show ¬ (9 : Int32) = 7 by decide), if_neg (show ¬ (9 : Int32) = 8 by decide), if_pos rfl] at hq; exact ⟨by rw [sh_n hs 83 7 (by decide) (by decide) rfl]; unfold vp_in; decide, hq⟩
  · subst e; rw [if_neg (show ¬ (10 : Int32) = 0 by decide), if_neg (show ¬ (10 : Int32) = 1 by decide), if_neg (show ¬ (10 : Int32) = 2 by decide), if_neg (show ¬ (10 : Int32) = 3 by decide), if_neg (show ¬ (10 : Int32) = 4 by decide), if_neg (show ¬ (10 : Int32) = 5 by decide), if_neg (show ¬ (10 : Int32) = 6 by decide), if_neg (show ¬ (10 : Int32) = 7 by decide), if_neg (show ¬ (10 : Int32) = 8 by decide), if_neg (show ¬ (10 : Int32) = 9 by decide), if_pos rfl] at hq; exact ⟨by rw [sh_n hs 83 7 (by decide) (by decide) rfl]; unfold vp_in; decide, hq⟩
  · subst e; rw [if_neg (show ¬ (11 : Int32) = 0 by decide), if_neg (show ¬ (11 : Int32) = 1 by decide), if_neg (show ¬ (11 : Int32) = 2 by decide), if_neg (show ¬ (11 : Int32) = 3 by decide), if_neg (show ¬ (11 : Int32) = 4 by decide), if_neg (show ¬ (11 : Int32) = 5 by decide), if_neg (show ¬ (11 : Int32) = 6 by decide), if_neg (show ¬ (11 : Int32) = 7 by decide), if_neg (show ¬ (11 : Int32) = 8 by decide), if_neg (show ¬ (11 : Int32) = 9 by decide), if_neg (show ¬ (11 : Int32) = 10 by decide), if_pos rfl] at hq; exact hq
  · subst e; rw [if_neg (show ¬ (12 : Int32) = 0 by decide), if_neg (show ¬ (12 : Int32) = 1 by decide), if_neg (show ¬ (12 : Int32) = 2 by decide), if_neg (show ¬ (12 : Int32) = 3 by decide), if_neg (show ¬ (12 : Int32) = 4 by decide), if_neg (show ¬ (12 : Int32) = 5 by decide), if_neg (show ¬ (12 : Int32) = 6 by decide), if_neg (show ¬ (12 : Int32) = 7 by decide), if_neg (show ¬ (12 : Int32) = 8 by decide), if_neg (show ¬ (12 : Int32) = 9 by decide), if_neg (show ¬ (12 : Int32) = 10 by decide), if_neg (show ¬ (12 : Int32) = 11 by decide), if_pos rfl] at hq; exact hq
  · subst e; rw [if_neg (show ¬ (13 : Int32) = 0 by decide), if_neg (show ¬ (13 : Int32) = 1 by decide), if_neg (show ¬ (13 : Int32) = 2 by decide), if_neg (show ¬ (13 : Int32) = 3 by decide), if_neg (show ¬ (13 : Int32) = 4 by decide), if_neg (show ¬ (13 : Int32) = 5 by decide), if_neg (show ¬ (13 : Int32) = 6 by decide), if_neg (show ¬ (13 : Int32) = 7 by decide), if_neg (show ¬ (13 : Int32) = 8 by decide), if_neg (show ¬ (13 : Int32) = 9 by decide), if_neg (show ¬ (13 : Int32) = 10 by decide), if_neg (show ¬ (13 : Int32) = 11 by decide), if_neg (show ¬ (13 : Int32) = 12 by decide), if_pos rfl] at hq; exact hq
  · subst e; rw [if_neg (show ¬ (14 : Int32) = 0 by decide), if_neg (show ¬ (14 : Int32) = 1 by decide), if_neg (show ¬ (14 : Int32) = 2 by decide), if_neg (show ¬ (14 : Int32) = 3 by decide), if_neg (show ¬ (14 : Int32) = 4 by decide), if_neg (show ¬ (14 : Int32) = 5 by decide), if_neg (show ¬ (14 : Int32) = 6 by decide), if_neg (show ¬ (14 : Int32) = 7 by decide), if_neg (show ¬ (14 : Int32) = 8 by decide), if_neg (show ¬ (14 : Int32) = 9 by decide), if_neg (show ¬ (14 : Int32) = 10 by decide), if_neg (show ¬ (14 : Int32) = 11 by decide), if_neg (show ¬ (14 : Int32) = 12 by decide), if_neg (show ¬ (14 : Int32) = 13 by decide), if_pos rfl] at hq; exact ⟨by rw [sh_n hs 84 5860 (by decide) (by decide) rfl]; unfold vp_in; decide, hq⟩
  · subst e; rw [if_neg (show ¬ (15 : Int32) = 0 by decide), if_neg (show ¬ (15 : Int32) = 1 by decide), if_neg (show ¬ (15 : Int32) = 2 by decide), if_neg (show ¬ (15 : Int32) = 3 by decide), if_neg (show ¬ (15 : Int32) = 4 by decide), if_neg (show ¬ (15 : Int32) = 5 by decide), if_neg (show ¬ (15 : Int32) = 6 by decide), if_neg (show ¬ (15 : Int32) = 7 by decide), if_neg (show ¬ (15 : Int32) = 8 by decide), if_neg (show ¬ (15 : Int32) = 9 by decide), if_neg (show ¬ (15 : Int32) = 10 by decide), if_neg (show ¬ (15 : Int32) = 11 by decide), if_neg (show ¬ (15 : Int32) = 12 by decide), if_neg (show ¬ (15 : Int32) = 13 by decide), if_neg (show ¬ (15 : Int32) = 14 by decide), if_pos rfl] at hq; exact ⟨by rw [sh_n hs 84 5860 (by decide) (by decide) rfl]; unfold vp_in; decide, hq⟩
  · subst e; rw [if_neg (show ¬ (16 : Int32) = 0 by decide), if_neg (show ¬ (16 : Int32) = 1 by decide), if_neg (show ¬ (16 : Int32) = 2 by decide), if_neg (show ¬ (16 : Int32) = 3 by decide), if_neg (show ¬ (16 : Int32) = 4 by decide), if_neg (show ¬ (16 : Int32) = 5 by decide), if_neg (show ¬ (16 : Int32) = 6 by decide), if_neg (show ¬ (16 : Int32) = 7 by decide), if_neg (show ¬ (16 : Int32) = 8 by decide), if_neg (show ¬ (16 : Int32) = 9 by decide), if_neg (show ¬ (16 : Int32) = 10 by decide), if_neg (show ¬ (16 : Int32) = 11 by decide), if_neg (show ¬ (16 : Int32) = 12 by decide), if_neg (show ¬ (16 : Int32) = 13 by decide), if_neg (show ¬ (16 : Int32) = 14 by decide), if_neg (show ¬ (16 : Int32) = 15 by decide), if_pos rfl] at hq; exact ⟨by rw [sh_n hs 84 5860 (by decide) (by decide) rfl]; unfold vp_in; decide, hq⟩
  · rw [if_neg e0, if_neg e1, if_neg e2, if_neg e3, if_neg e4, if_neg e5, if_neg e6, if_neg e7, if_neg e8, if_neg e9, if_neg e10, if_neg e11, if_neg e12, if_neg e13, if_neg e14, if_neg e15, if_neg e16] at hq; exact hq
theorem rel_count (hCM : CMp CM) (a : Int32) : lw_RC (Inv TX CC CM (n + 1)) (Inv TX CC CM n) mX11_count mX12_count [.int a] := by
  intro h hI
  have hI' := hI
  obtain ⟨hs, A, B0, B1, d, D, wf, tn, im, sc, tp, dr, cc, cm⟩ := hI'
  refine c_count hs a ⟨_, rfl, hs, m_count hs a ⟨_, rfl, ?_, inv_dn hCM hI⟩⟩
  obtain ⟨q1, q2, q3, q4, q5, q6, q7, q8⟩ := tn
  obtain ⟨t1, t2, t3, t4⟩ := tp
  obtain ⟨s1, s2, s3, s4, s5, s6, s7, s8, s9⟩ := sc
  have a1 := cp3_m q1
  have a2 := cp3_m q2
  have a3 := cp3_m q3
  have a5 := cp3_m q5
  have a6 := cp3_m q6
  have a4 := q4.2.2.2.1
  have a8 := q8.2.2.1
  have a9 := q8.2.2.2.1
  have b0 := q7 0 (by decide)
  have b1 := q7 1 (by decide)
  have b2 := q7 2 (by decide)
  simp only [Nat.zero_add] at a4 a8 a9 b0 b1 b2
  unfold cnC cnM
  rw [show ah_i h 2 3 = ah_i h 84 245 by rw [a1.2.2.2.1]; exact a1.2.2.1, show ah_i h 4 3 = ah_i h 84 246 by rw [a2.2.2.2.1]; exact a2.2.2.1, show ah_i h 6 3 = ah_i h 84 247 by rw [a3.2.2.2.1]; exact a3.2.2.1, show ah_i h 8 3 = ah_i h 84 248 by rw [a4]; exact q4.2.2.1, show ah_i h 10 3 = ah_i h 84 249 by rw [a5.2.2.2.1]; exact a5.2.2.1, show ah_i h 1 8 = ah_i h 84 251 by rw [a8]; exact q8.1, show ah_i h 12 3 = ah_i h 84 250 by rw [a6.2.2.2.1]; exact a6.2.2.1, show ah_i h 0 13 = ah_i h 82 11 by rw [t2, t3], s2, s3, s4, s5, s6, show ah_i h 1 9 = ah_i h 84 252 by rw [a9]; exact q8.2.1, show ah_i h 14 0 = ah_i h 84 242 by rw [b0.2]; exact b0.1, show ah_i h 14 1 = ah_i h 84 243 by rw [b1.2]; exact b1.1, show ah_i h 14 2 = ah_i h 84 244 by rw [b2.2]; exact b2.1]
/-! ## feed -/
def bb (x : Int32) (s : Nat) : Nat := ((x.toUInt32 >>> ((nI s).toUInt32 &&& Int32.toUInt32 31)).toInt32 &&& 255).toNatClampNeg
theorem bb_s (x : Int32) (s : Nat) (hs : s ≤ 24) : bb x s < 256 ∧ ((x.toUInt32 >>> ((nI s).toUInt32 &&& Int32.toUInt32 31)).toInt32 &&& 255) = nI (bb x s) ∧ vp_nar .byte ((x >>> (nI s &&& 31)).toInt8.toInt32) = sB (bb x s) := by
  obtain ⟨b, hb, e1, e2⟩ := byt x s hs
  have e : bb x s = b := by unfold bb; rw [e1, nI_clamp (by omega)]
  rw [e]
  exact ⟨hb, e1, e2⟩
/-- four bytes are written, from the i-th on -/
def Wr (x : Int32) (p i : Nat) (h h' : ah_T) : Prop := Sh h' ∧ ah_x h' = ah_x h ∧ (∀ a, a ≠ 0 → a ≠ 17 → eqc h h' a) ∧ (∀ j, j ≠ 13 → ah_i h' 0 j = ah_i h 0 j) ∧ ah_i h' 0 13 = nI (p + 4) ∧ ∀ j, ah_i h' 17 j = if p + i ≤ j ∧ j < p + 4 then nI (bb x (24 - 8 * (j - p))) else ah_i h 17 j
theorem c_write_k {Q : Option Value → ah_T → Prop} (x : Int32) (p : Nat) (hp : p + 4 ≤ 400) : ∀ (k : Nat) (h : ah_T), k ≤ 4 → Sh h → ah_i h 0 13 = nI (p + (4 - k)) → (∀ h', Wr x p (4 - k) h h' → Q none h') → Wp mX11_write Q 0 0 3 [some (.ref 0), some (.int x), some (.int (nI (8 * k) - 8))] [] h := by
  intro k
  induction k with
  | zero =>
    intro h hk hs e hq
    refine T_X11_write_3 hs _ _ ?_
    (first | refine ⟨fun _ => ?_, fun n_ => absurd (show nI (8 * 0) - 8 < 0 by decide) n_⟩ | refine ⟨fun n_ => absurd (show nI (8 * 0) - 8 < 0 by decide) n_, fun _ => ?_⟩ | refine ⟨fun y_ => absurd y_ (show nI (8 * 0) - 8 < 0 by decide), fun _ => ?_⟩ | refine ⟨fun _ => ?_, fun y_ => absurd y_ (show nI (8 * 0) - 8 < 0 by decide)⟩)
    exact hq h ⟨hs, rfl, fun a _ _ => eqc_rfl, fun _ _ => rfl, e, fun j => by rw [if_neg (by omega)]⟩
  | succ k ih =>
    intro h hk hs e hq
    have e1 : nI (8 * (k + 1)) - 8 = nI (8 * k) := by rw [n_8, nI_sub (by omega)]; congr 1
    obtain ⟨b1, b2, b3⟩ := bb_s x (8 * k) (by omega)
    refine T_X11_write_3 hs _ _ ?_
    rw [e1, e, b2]
    (first | refine ⟨fun _ => ?_, fun n_ => absurd (nI_pos (show 8 * k < 2 ^ 31 by omega)) n_⟩ | refine ⟨fun n_ => absurd (nI_pos (show 8 * k < 2 ^ 31 by omega)) n_, fun _ => ?_⟩ | refine ⟨fun y_ => absurd y_ (nI_pos (show 8 * k < 2 ^ 31 by omega)), fun _ => ?_⟩ | refine ⟨fun _ => ?_, fun y_ => absurd y_ (nI_pos (show 8 * k < 2 ^ 31 by omega))⟩)
    (first | refine ⟨fun _ => ?_, fun n_ => absurd (show ¬ 400 ≤ nI (p + (4 - (k + 1))) by grind) n_⟩ | refine ⟨fun n_ => absurd (show ¬ 400 ≤ nI (p + (4 - (k + 1))) by grind) n_, fun _ => ?_⟩ | refine ⟨fun y_ => absurd y_ (show ¬ 400 ≤ nI (p + (4 - (k + 1))) by grind), fun _ => ?_⟩ | refine ⟨fun _ => ?_, fun y_ => absurd y_ (show ¬ 400 ≤ nI (p + (4 - (k + 1))) by grind)⟩)
    refine ⟨by rw [sh_n hs 17 400 (by decide) (by decide) rfl]; exact (vp_nI (by omega)).mpr (by omega), ?_⟩
    rw [nI_clamp (by omega)]
    rintro h4 rfl
    rw [ah_i_sn (by omega), e, nI_1]
    rintro h7 rfl
    rw [show nI (8 * k) + -8 = nI (8 * k) - 8 by grind]
    refine ih _ (by omega) (sh_si (sh_si hs)) (by rw [ah_i_ss]; congr 1; omega) (fun h' w => hq h' ?_)
    obtain ⟨w1, w2, w3, w4, w5, w6⟩ := w
    refine ⟨w1, by rw [w2, ah_x_si, ah_x_si], fun a h0 h1 => eqc_trans (eqc_si (eqc_si eqc_rfl h1) h0) (w3 a h0 h1), fun j hj => by rw [w4 j hj, ah_i_sn (by omega), ah_i_sn (by omega)], w5, fun j => ?_⟩
    rw [w6, ah_i_sn (by omega), ah_i_si]
    by_cases c : j = p + (4 - (k + 1))
    · rw [if_neg (by omega), if_pos ⟨rfl, c⟩, if_pos (by omega)]
      congr 2
      omega
    · rw [if_neg (c := 17 = 17 ∧ j = p + (4 - (k + 1))) (by omega)]
      by_cases c2 : p + (4 - k) ≤ j ∧ j < p + 4
      · rw [if_pos c2, if_pos (by omega)]
      · rw [if_neg c2, if_neg (by omega)]
theorem c_write {Q : Option Value → ah_T → Prop} (hs : Sh h) (x : Int32) (p : Nat) (hp : p + 4 ≤ 400) (e : ah_i h 0 13 = nI p) (hq : ∀ h', Wr x p 0 h h' → Q none h') : Mt mX11_write [.ref 0, .int x] h Q :=
  T_X11_write hs x (c_write_k x p hp 4 h (by omega) hs e hq)
def x5 (x1 x2 x3 x4 x5 : Int32) (i : Nat) : Int32 := if i = 0 then x1 else if i = 1 then x2 else if i = 2 then x3 else if i = 3 then x4 else x5
/-- the bytes fed -/
def fB (X : Nat → Int32) (i : Nat) : Nat := bb (X (i / 4)) (24 - 8 * (i % 4))
theorem c_feed {Q : Option Value → ah_T → Prop} (hs : Sh h) (x1 x2 x3 x4 x5' : Int32) (p : Nat) (hp : p ≤ 400) (e : ah_i h 0 13 = nI p) (h0 : 380 < p → Q (some (.int (-1))) h)
    (hq : ∀ h', p ≤ 380 → Sh h' → ah_x h' = ah_x h → (∀ a, a ≠ 0 → a ≠ 17 → eqc h h' a) → (∀ j, j ≠ 13 → ah_i h' 0 j = ah_i h 0 j) → ah_i h' 0 13 = nI (p + 20) → (∀ j, ah_i h' 17 j = if p ≤ j ∧ j < p + 20 then nI (fB (x5 x1 x2 x3 x4 x5') (j - p)) else ah_i h 17 j) → Q (some (.int (nI (p + 20)))) h') : Mt mX11_feed [.ref 0, .int x1, .int x2, .int x3, .int x4, .int x5'] h Q := by
  refine T_X11_feed hs x1 x2 x3 x4 x5' ?_
  rw [e]
  rcases Nat.lt_or_ge 380 p with c | c
  · (first | refine ⟨fun _ => ?_, fun n_ => absurd (show ¬ nI p + 20 ≤ 400 by grind) n_⟩ | refine ⟨fun n_ => absurd (show ¬ nI p + 20 ≤ 400 by grind) n_, fun _ => ?_⟩ | refine ⟨fun y_ => absurd y_ (show ¬ nI p + 20 ≤ 400 by grind), fun _ => ?_⟩ | refine ⟨fun _ => ?_, fun y_ => absurd y_ (show ¬ nI p + 20 ≤ 400 by grind)⟩)
    exact h0 c
  (first | refine ⟨fun _ => ?_, fun n_ => absurd (show nI p + 20 ≤ 400 by grind) n_⟩ | refine ⟨fun n_ => absurd (show nI p + 20 ≤ 400 by grind) n_, fun _ => ?_⟩ | refine ⟨fun y_ => absurd y_ (show nI p + 20 ≤ 400 by grind), fun _ => ?_⟩ | refine ⟨fun _ => ?_, fun y_ => absurd y_ (show nI p + 20 ≤ 400 by grind)⟩)
  refine c_write hs x1 p (by omega) e (fun h1 a => ⟨rfl, a.1, ?_⟩)
  refine c_write a.1 x2 (p + 4) (by omega) a.2.2.2.2.1 (fun h2 b => ⟨rfl, b.1, ?_⟩)
  refine c_write b.1 x3 (p + 4 + 4) (by omega) b.2.2.2.2.1 (fun h3 c => ⟨rfl, c.1, ?_⟩)
  refine c_write c.1 x4 (p + 4 + 4 + 4) (by omega) c.2.2.2.2.1 (fun h4 d => ⟨rfl, d.1, ?_⟩)
  refine c_write d.1 x5' (p + 4 + 4 + 4 + 4) (by omega) d.2.2.2.2.1 (fun h5 f => ⟨rfl, f.1, ?_⟩)
  rw [f.2.2.2.2.1]
  refine hq h5 (by omega) f.1 (by rw [f.2.1, d.2.1, c.2.1, b.2.1, a.2.1]) (fun i n0 n1 => eqc_trans (eqc_trans (eqc_trans (eqc_trans (a.2.2.1 i n0 n1) (b.2.2.1 i n0 n1)) (c.2.2.1 i n0 n1)) (d.2.2.1 i n0 n1)) (f.2.2.1 i n0 n1)) (fun j hj => by rw [f.2.2.2.1 j hj, d.2.2.2.1 j hj, c.2.2.2.1 j hj, b.2.2.2.1 j hj, a.2.2.2.1 j hj]) f.2.2.2.2.1 (fun j => ?_)
  rw [f.2.2.2.2.2, d.2.2.2.2.2, c.2.2.2.2.2, b.2.2.2.2.2, a.2.2.2.2.2]
  unfold fB x5
  rcases Nat.lt_or_ge j p with k | k
  · rw [if_neg (by omega), if_neg (by omega), if_neg (by omega), if_neg (by omega), if_neg (by omega), if_neg (by omega)]
  rcases Nat.lt_or_ge j (p + 4) with k1 | k1
  · rw [if_neg (by omega), if_neg (by omega), if_neg (by omega), if_neg (by omega), if_pos (by omega), if_pos (by omega), if_pos (by omega)]
    congr 2; omega
  rcases Nat.lt_or_ge j (p + 8) with k2 | k2
  · rw [if_neg (by omega), if_neg (by omega), if_neg (by omega), if_pos (by omega), if_pos (by omega), if_neg (by omega), if_pos (by omega)]
    congr 2; omega
  rcases Nat.lt_or_ge j (p + 12) with k3 | k3
  · rw [if_neg (by omega), if_neg (by omega), if_pos (by omega), if_pos (by omega), if_neg (by omega), if_neg (by omega), if_pos (by omega)]
    congr 2; omega
  rcases Nat.lt_or_ge j (p + 16) with k4 | k4
  · rw [if_neg (by omega), if_pos (by omega), if_pos (by omega), if_neg (by omega), if_neg (by omega), if_neg (by omega), if_pos (by omega)]
    congr 2; omega
  rcases Nat.lt_or_ge j (p + 20) with k5 | k5
  · rw [if_pos (by omega), if_pos (by omega), if_neg (by omega), if_neg (by omega), if_neg (by omega), if_neg (by omega)]
    congr 2; omega
  · rw [if_neg (by omega), if_neg (by omega), if_neg (by omega), if_neg (by omega), if_neg (by omega), if_neg (by omega)]
end TP
