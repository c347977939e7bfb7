/-! ===== law on both sides: the relation ===== -/
section LW
variable {CC : (Nat → Nat) → ah_T → Prop} {CM : Nat → (Nat → Nat) → ah_T → Prop} {n : Nat}
theorem sh_15 {h : ah_T} {j : Nat} {x : Option Nat} (hs : Sh h) : Sh (ah_sr h 15 j x) := sh_sr hs (by
  have : sh_R.all (fun q => !(q.1 == 15)) = true := by decide +kernel
  refine List.all_eq_true.mpr (fun q hq => ?_)
  have := List.all_eq_true.mp this q hq
  have e : (q.1 == 15) = false := by simpa using this
  rw [e]
  rfl)
theorem rel_law (hCC : CCp CC) (hCM : CMp CM) (hCW : CMw CM) : lw_RC (Inv TXm CC CM (n + 1)) (Inv TXm CC CM n) mX11_law mX12_law [] := by
  intro h hI
  have hI' := hI
  obtain ⟨hs, A, B0, B1, d, D, wf, tn, im, sc, tp, dr, cc, cm⟩ := hI'
  obtain ⟨t1, t2, t3, t4⟩ := tp
  have hw := hCW _ _ _ cm
  obtain ⟨w1, w2, w3, w4, w5, w6⟩ := tn.2.2.2.2.2.2.2
  simp only [Nat.zero_add] at w3 w4 w5
  have h251 := wf.2.2.2.2.2.2.2.1
  have hx3 := hs.2.2
  refine T_X11_law hs (T_X11_takeTape hs ?_)
  rintro h1 rfl
  rw [t2]
  refine ⟨_, rfl, sh_si hs, ?_⟩
  rw [ah_i_sn (show ¬ ((1 : Nat) = 0 ∧ 8 = 13) by omega), w1]
  have sc' := sc
  obtain ⟨s1, s2, s3, s4, s5, s6, s7, s8, s9⟩ := sc'
  rcases Nat.lt_or_ge (A 251) 6 with c6 | c6
  · (first | refine ⟨fun _ => ?_, fun n_ => absurd (show nI (A 251) < 6 from nI_lt (b := 6) c6 (by decide)) n_⟩ | refine ⟨fun n_ => absurd (show nI (A 251) < 6 from nI_lt (b := 6) c6 (by decide)) n_, fun _ => ?_⟩ | refine ⟨fun y_ => absurd y_ (show nI (A 251) < 6 from nI_lt (b := 6) c6 (by decide)), fun _ => ?_⟩ | refine ⟨fun _ => ?_, fun y_ => absurd y_ (show nI (A 251) < 6 from nI_lt (b := 6) c6 (by decide))⟩)
    have x1 : ah_x (ah_si h 0 13 0) = ah_x h := ah_x_si _ _ _ _
    have m6 : ∀ {g : ah_T}, (∀ j, ah_i g 84 j = ah_i h 84 j) → ¬ ah_i g 84 251 = 6 := fun e => by rw [e, w3]; intro q; have := (nI_eq (b := 6) (by omega) (by decide)).mp q; omega
    refine c_readT (ro := false) (D := D) (d := d) (sh_si hs) t1 (fun j hj => ⟨(t4 j hj).1, by rw [ah_i_sn (by omega)]; exact (t4 j hj).2.1⟩) rfl rfl (fun er g x fr xg ex e200 tx2 => ⟨some x, rfl, fr.1, ?_⟩) (fun er g fr xg e200 => ⟨none, rfl, fr.1, ?_⟩)
    · -- it becomes a law
      refine ⟨fun z => (nomatch z), fun b8 eb => ?_⟩
      cases eb
      rw [x1] at xg ex
      have gk : ah_k g x = 9 := tx2.1.2.2.1
      refine ⟨gk, ?_⟩
      rintro h16 rfl
      have eh : ∀ a, a < ah_x h → (a < 20 ∨ 25 < a) → a ≠ 0 → eqc h g a := fun a h1 h2 h3 => eqc_trans (eqc_si eqc_rfl h3) (fr.2.2 a (by rw [x1]; exact h1) h2)
      have g0 : ∀ j, ah_i g 0 j = if j = 13 then 0 else ah_i h 0 j := fun j => by
        rw [(fr.2.2 0 (by rw [x1]; omega) (by omega)).1, ah_i_si]
        simp only [true_and]
      refine T_X10_keepLaw (sh_si fr.1) x gk ?_
      have g18 : ah_i (ah_si g 0 14 (ah_i g 20 0)) 1 8 = nI (A 251) := by rw [ah_i_sn (by omega), (eh 1 (by omega) (by omega) (by omega)).1]; exact w1
      rw [g18]
      (first | refine ⟨fun _ => ?_, fun n_ => absurd (show nI (A 251) < 6 from nI_lt (b := 6) c6 (by decide)) n_⟩ | refine ⟨fun n_ => absurd (show nI (A 251) < 6 from nI_lt (b := 6) c6 (by decide)) n_, fun _ => ?_⟩ | refine ⟨fun y_ => absurd y_ (show nI (A 251) < 6 from nI_lt (b := 6) c6 (by decide)), fun _ => ?_⟩ | refine ⟨fun _ => ?_, fun y_ => absurd y_ (show nI (A 251) < 6 from nI_lt (b := 6) c6 (by decide))⟩)
      refine ⟨by rw [sh_n (sh_si fr.1) 15 6 (by decide) (by decide) rfl]; exact (vp_nI (by omega)).mpr c6, ?_⟩
      rintro h3 rfl
      rw [nI_clamp (show A 251 < 2 ^ 31 by omega), ah_i_sr, g18, nI_1]
      rintro h7 rfl
      rw [ah_i_ss, nI_pred, e200]
      -- the class is through
      obtain ⟨u, eu⟩ : ∃ u, u = chg (ah_si (ah_sr (ah_si g 0 14 (-1)) 15 (A 251) (some x)) 1 8 (nI (A 251 + 1))) := ⟨_, rfl⟩
      have us : Sh u := by rw [eu]; exact sh_chg (sh_si (sh_15 (sh_si fr.1)))
      have ux : ah_x u = ah_x h + 4 := by rw [eu, x_chg, ah_x_si, ah_x_sr, ah_x_si]; exact xg
      have ue : ∀ a, a ≠ 0 → a ≠ 1 → a ≠ 15 → eqc g u a := fun a n0 n1 n2 => by rw [eu]; exact chg_eq (eqc_si (eqc_sr (eqc_si eqc_rfl n0) n2) n1) n0
      have u0 : ∀ j, ah_i u 0 j = if j = 17 then 0 else if j = 19 then 1 else if j = 14 then -1 else if j = 13 then 0 else ah_i h 0 j := fun j => by
        rw [eu, chg_0, ah_i_sn (by omega), ah_i_sr, ah_i_si, g0]
        simp only [true_and]
      have u1 : ∀ j, ah_i u 1 j = if j = 8 then nI (A 251 + 1) else ah_i g 1 j := fun j => by
        rw [eu, chg_i (by decide), ah_i_si, ah_i_sr, ah_i_sn (by omega)]
        simp only [true_and]
      have u15 : ∀ j, ah_r u 15 j = if j = A 251 then some x else ah_r g 15 j := fun j => by
        have : ah_r u 15 j = ah_r (ah_si (ah_sr (ah_si g 0 14 (-1)) 15 (A 251) (some x)) 1 8 (nI (A 251 + 1))) 15 j := by rw [eu]; rfl
        rw [this, ah_r_si, ah_r_sr, ah_r_si]
        simp only [true_and]
      have uk : ah_k u x = 9 := by rw [(ue x (by omega) (by omega) (by omega)).2.2.2.1]; exact gk
      refine ⟨_, rfl, sh_si (sh_15 (sh_si fr.1)), gk, c_change (sh_si (sh_15 (sh_si fr.1))) _ ⟨_, rfl, ?_, ?_, _, rfl, ?_, ?_⟩⟩
      · exact sh_chg (sh_si (sh_15 (sh_si fr.1)))
      · rw [show ah_si (ah_si (ah_si (ah_sr (ah_si g 0 14 (-1)) 15 (A 251) (some x)) 1 8 (nI (A 251 + 1))) 0 19 1) 0 17 0 = u from eu.symm]
        exact uk
      · exact sh_chg (sh_si (sh_15 (sh_si fr.1)))
      rw [show ah_si (ah_si (ah_si (ah_sr (ah_si g 0 14 (-1)) 15 (A 251) (some x)) 1 8 (nI (A 251 + 1))) 0 19 1) 0 17 0 = u from eu.symm]
      clear eu
      have uh : ∀ a, a < ah_x h → (a < 20 ∨ 25 < a) → a ≠ 0 → a ≠ 1 → a ≠ 15 → eqc h u a := fun a h1 h2 h3 h4 h5 => eqc_trans (eh a h1 h2 h3) (ue a h3 h4 h5)
      -- the model
      refine T_X12_law us ?_
      rw [cl_251]
      (first | refine ⟨fun _ => ?_, fun n_ => absurd (m6 (g := u) (fun j => (uh 84 (by omega) (by omega) (by omega) (by omega) (by omega)).1 j)) n_⟩ | refine ⟨fun n_ => absurd (m6 (g := u) (fun j => (uh 84 (by omega) (by omega) (by omega) (by omega) (by omega)).1 j)) n_, fun _ => ?_⟩ | refine ⟨fun y_ => absurd y_ (m6 (g := u) (fun j => (uh 84 (by omega) (by omega) (by omega) (by omega) (by omega)).1 j)), fun _ => ?_⟩ | refine ⟨fun _ => ?_, fun y_ => absurd y_ (m6 (g := u) (fun j => (uh 84 (by omega) (by omega) (by omega) (by omega) (by omega)).1 j))⟩)
      rintro h2 rfl
      have v88 := (uh 88 (by omega) (by omega) (by omega) (by omega) (by omega)).1
      have v87 := (uh 87 (by omega) (by omega) (by omega) (by omega) (by omega)).1
      have v82 := (uh 82 (by omega) (by omega) (by omega) (by omega) (by omega)).1
      have v84 := (uh 84 (by omega) (by omega) (by omega) (by omega) (by omega)).1
      refine m_reads (ro := false) (D := D) (d := d) (sh_si us) t1 (fun j hj => ⟨(t4 j hj).1, by rw [ah_i_sn (by omega), v88]; exact (t4 j hj).2.2⟩) (by rw [ah_i_sn (by omega), v82]; exact t3) (n_87 (sh_si us)) (fun j hj => by rw [ah_i_sn (by omega), v87]; exact hw j hj) ah_i_ss (fun _ p mf e12 => ⟨_, rfl, mf.1, ?_⟩) (fun e2 => absurd er (by rw [e2]; decide))
      (first | refine ⟨fun _ => ?_, fun n_ => absurd (show ¬ (1 : Int32) = 0 by decide) n_⟩ | refine ⟨fun n_ => absurd (show ¬ (1 : Int32) = 0 by decide) n_, fun _ => ?_⟩ | refine ⟨fun y_ => absurd y_ (show ¬ (1 : Int32) = 0 by decide), fun _ => ?_⟩ | refine ⟨fun _ => ?_, fun y_ => absurd y_ (show ¬ (1 : Int32) = 0 by decide)⟩)
      obtain ⟨p1, p2, p3, p4, p5, p6, p7⟩ := mf
      have p84 : ∀ j, ah_i p 84 j = ah_i h 84 j := fun j => by rw [(p3 84 (by decide) (by decide) (by decide) (by decide)).1, ah_i_sn (by omega), v84]
      have tl := tnO_le (D := D) (d := d)
      rw [p84, w3]
      refine m_lays p1 rfl (by omega) (by omega) p6 p7 (fun q q1 q2 q3 q4 => ⟨rfl, q1, ?_⟩)
      have q251 : ah_i q 84 251 = nI (A 251) := by
        rw [q4]; unfold layI
        rw [if_neg (by omega), if_neg (by omega), if_neg (by omega), p84, w3]
      rw [q251, nI_1]
      rintro h12 rfl
      rw [ah_i_ss, nI_pred]
      refine rl_go (sh_si q1) rfl ?_
      show Inv TXm CC CM n (god (ah_si q 84 251 (nI (A 251 + 1))))
      have qe : ∀ a, a ≠ 82 → a ≠ 84 → a ≠ 90 → a ≠ 91 → a ≠ 92 → eqc u (god (ah_si q 84 251 (nI (A 251 + 1)))) a := fun a n1 n2 n3 n4 n5 => god_eq (eqc_si (eqc_trans (eqc_trans (eqc_si eqc_rfl n1) (p3 a n1 n3 n4 n5)) (q3 a n2)) n2) n1
      have q82 : ∀ j, j ≠ 0 → j ≠ 1 → j ≠ 8 → j ≠ 11 → j ≠ 12 → j ≠ 16 → j ≠ 17 → j ≠ 18 → j ≠ 19 → ah_i (god (ah_si q 84 251 (nI (A 251 + 1)))) 82 j = ah_i h 82 j := fun j n1 n2 n3 n4 n5 n6 n7 n8 n9 => by
        rw [god_82, if_neg n2, if_neg n1, ah_i_sn (by omega), (q3 82 (by decide)).1, p4 j n4 n5 n6 n7 n8 n9, ah_i_sn (by omega), v82]
      have q84 : ∀ j, ah_i (god (ah_si q 84 251 (nI (A 251 + 1)))) 84 j = if j = 251 then nI (A 251 + 1) else layI (A 251) (tnO D d) (csO D d) (vsO D d) (ah_i h 84) j := fun j => by
        rw [god_i (by decide), ah_i_si]
        simp only [true_and]
        by_cases e : j = 251
        · rw [if_pos e, if_pos e]
        · rw [if_neg e, if_neg e, q4]
          have : ah_i p 84 = ah_i h 84 := funext p84
          rw [this]
      have q821 : ah_i (god (ah_si q 84 251 (nI (A 251 + 1)))) 82 1 = ah_i h 82 1 + 1 := by
        rw [god_82, if_pos rfl, ah_i_sn (by omega), (q3 82 (by decide)).1, p4 1 (by decide) (by decide) (by decide) (by decide) (by decide) (by decide), ah_i_sn (by omega), v82]
      have q820 : ah_i (god (ah_si q 84 251 (nI (A 251 + 1)))) 82 0 = 0 := by rw [god_82, if_neg (by decide), if_pos rfl]
      have q8211 : ah_i (god (ah_si q 84 251 (nI (A 251 + 1)))) 82 11 = 0 := by
        rw [god_82, if_neg (by decide), if_neg (by decide), ah_i_sn (by omega), (q3 82 (by decide)).1, p5]
      have q8212 : ah_i (god (ah_si q 84 251 (nI (A 251 + 1)))) 82 12 = -1 := by
        rw [god_82, if_neg (by decide), if_neg (by decide), ah_i_sn (by omega), (q3 82 (by decide)).1, e12]
      have fs : Sh (god (ah_si q 84 251 (nI (A 251 + 1)))) := sh_god (sh_si q1)
      have fx : ah_x (god (ah_si q 84 251 (nI (A 251 + 1)))) = ah_x h + 4 := by rw [x_god, ah_x_si, q2, p2, ah_x_si, ux]
      revert qe q82 q84 q821 q820 q8211 q8212 fs fx
      generalize god (ah_si q 84 251 (nI (A 251 + 1))) = f
      intro qe q82 q84 q821 q820 q8211 q8212 fs fx
      have fh : ∀ a, a < ah_x h → (a < 20 ∨ 25 < a) → a ≠ 0 → a ≠ 1 → a ≠ 15 → a ≠ 82 → a ≠ 84 → a ≠ 90 → a ≠ 91 → a ≠ 92 → eqc h f a := fun a h1 h2 h3 h4 h5 h6 h7 h8 h9 h10 => eqc_trans (uh a h1 h2 h3 h4 h5) (qe a h6 h7 h8 h9 h10)
      have f0 : ∀ j, ah_i f 0 j = if j = 17 then 0 else if j = 19 then 1 else if j = 14 then -1 else if j = 13 then 0 else ah_i h 0 j := fun j => by rw [(qe 0 (by decide) (by decide) (by decide) (by decide) (by decide)).1, u0]
      have hcs : ∀ k, k < tnO D d → csO D d k < 400 ∧ vsO D d k < 2 ^ 31 := fun k hk => by
        have := csO_ok (fun j hj => (t4 j hj).1) hk
        omega
      have txf : TXm f x (csO D d) (vsO D d) (tnO D d) := by
        have e := lwR_D (D := D) (d := d) (cs := csO D d) (vs := vsO D d) (fun k hk => ⟨rfl, rfl⟩)
        unfold TXm
        rw [e]
        exact ⟨er, tx_fr (fun i hi => eqc_trans (ue _ (by omega) (by omega) (by omega)) (qe _ (by omega) (by omega) (by omega) (by omega) (by omega))) (by omega) tx2⟩
      have lo : ∀ j, j < 251 → up (layA (A 251) (tnO D d) (csO D d) (vsO D d) A) 251 (A 251 + 1) j = A j := fun j hj => by
        rw [up_n (by omega)]; unfold layA; rw [if_neg (by omega), if_neg (by omega), if_neg (by omega)]
      have f18 := (fh 18 (by omega) (by omega) (by omega) (by omega) (by omega) (by omega) (by omega) (by omega) (by omega) (by omega)).1
      have f83 := (fh 83 (by omega) (by omega) (by omega) (by omega) (by omega) (by omega) (by omega) (by omega) (by omega) (by omega)).1
      refine inv_gen (A' := up (layA (A 251) (tnO D d) (csO D d) (vsO D d) A) 251 (A 251 + 1)) (d' := 0) (D' := D) TXmp hCC hCM im dr cc cm fs (wf_lay wf c6 (by omega) hcs) (Tn_law wf tn c6 (by omega) txf (by omega) (fun a ha => fh a (by omega) (by omega) (by omega) (by omega) (by omega) (by omega) (by omega) (by omega) (by omega) (by omega)) (fun a h1 h2 => fh a h2 (by omega) (by omega) (by omega) (by omega) (by omega) (by omega) (by omega) (by omega) (by omega)) (fun j hj => ?_) ?_ (fun j => ?_) q84) (fun a ha => fh a (by unfold stayG at ha; omega) (by unfold stayG at ha; omega) (by unfold stayG at ha; omega) (by unfold stayG at ha; omega) (by unfold stayG at ha; omega) (by unfold stayG at ha; omega) (by unfold stayG at ha; omega) (by unfold stayG at ha; omega) (by unfold stayG at ha; omega) (by unfold stayG at ha; omega)) (by omega) ?_ ⟨by omega, ?_, by rw [q8211]; rfl, fun j hj => by omega⟩ (wB_of (fh 27 (by omega) (by omega) (by omega) (by omega) (by omega) (by omega) (by omega) (by omega) (by omega) (by omega)).1) (q82 77 (by decide) (by decide) (by decide) (by decide) (by decide) (by decide) (by decide) (by decide) (by decide)) ?_ ?_ (fun j hj => lo j (by omega)) (lo 245 (by omega)) (lo 246 (by omega)) q821 (fun j hj => q82 j (by omega) (by omega) (by omega) (by omega) (by omega) (by omega) (by omega) (by omega) (by omega))
      · rw [(qe 1 (by decide) (by decide) (by decide) (by decide) (by decide)).1, u1, if_neg hj, (eh 1 (by omega) (by omega) (by omega)).1]
      · rw [(qe 1 (by decide) (by decide) (by decide) (by decide) (by decide)).1, u1, if_pos rfl]
      · rw [(qe 15 (by decide) (by decide) (by decide) (by decide) (by decide)).2.2.1, u15, (eh 15 (by omega) (by omega) (by omega)).2.2.1]
      · refine ⟨by rw [f0, if_pos rfl, q820], by rw [f18, f83]; exact s2, by rw [f18, f83]; exact s3, by rw [f18, f83]; exact s4, by rw [f18, f83]; exact s5, by rw [f18, f83]; exact s6, ?_, ?_, ?_⟩
        · rw [f0, if_neg (by decide), if_neg (by decide), if_neg (by decide), if_neg (by decide), q82 6 (by decide) (by decide) (by decide) (by decide) (by decide) (by decide) (by decide) (by decide) (by decide)]; exact s7
        · rw [f0, if_neg (by decide), if_neg (by decide), if_pos rfl, q8212]
        · rw [f0, if_neg (by decide), if_neg (by decide), if_neg (by decide), if_neg (by decide), q82 66 (by decide) (by decide) (by decide) (by decide) (by decide) (by decide) (by decide) (by decide) (by decide)]; exact s9
      · rw [f0, if_neg (by decide), if_neg (by decide), if_neg (by decide), if_pos rfl]; rfl
      · rw [f0, if_neg (by decide), if_pos rfl]
      · rw [f0, if_neg (by decide), if_neg (by decide), if_neg (by decide), if_neg (by decide)]
    · -- it can't be
      refine ⟨fun _ => ?_, fun b8 eb => (nomatch eb)⟩
      rw [x1] at xg
      rintro h10 rfl
      have eh : ∀ a, a < ah_x h → (a < 20 ∨ 25 < a) → a ≠ 0 → eqc h g a := fun a h1 h2 h3 => eqc_trans (eqc_si eqc_rfl h3) (fr.2.2 a (by rw [x1]; exact h1) h2)
      have g0 : ∀ j, ah_i g 0 j = if j = 13 then 0 else ah_i h 0 j := fun j => by
        rw [(fr.2.2 0 (by rw [x1]; omega) (by omega)).1, ah_i_si]
        simp only [true_and]
      rw [e200]
      obtain ⟨c, ec⟩ : ∃ c, c = ah_si g 0 14 (nI (plO D d (txR false D d).2.1)) := ⟨_, rfl⟩
      rw [← ec]
      have cs : Sh c := by rw [ec]; exact sh_si fr.1
      have c0 : ∀ j, ah_i c 0 j = if j = 14 then nI (plO D d (txR false D d).2.1) else if j = 13 then 0 else ah_i h 0 j := fun j => by
        rw [ec, ah_i_si, g0]
        simp only [true_and]
      have ce : ∀ a, a < ah_x h → (a < 20 ∨ 25 < a) → a ≠ 0 → eqc h c a := fun a h1 h2 h3 => by rw [ec]; exact eqc_si (eh a h1 h2 h3) h3
      have cx : ah_x c = ah_x h := by rw [ec, ah_x_si, xg]
      clear ec
      refine c_refuse cs why6 ⟨_, rfl, sh_cRf cs, _, rfl, sh_cRf cs, ?_⟩
      have rs : Sh (cRf c (-6) 4) := sh_cRf cs
      have re : ∀ a, a < ah_x h → (a < 20 ∨ 25 < a) → a ≠ 0 → a ≠ 18 → eqc h (cRf c (-6) 4) a := fun a h1 h2 h3 h4 => eqc_trans (ce a h1 h2 h3) (eqc_cRf h3 h4)
      have r0 : ∀ j, ah_i (cRf c (-6) 4) 0 j = if j = 17 then -6 else ah_i c 0 j := fun j => by
        unfold cRf
        rw [ah_i_sn (by omega), ah_i_si]
        simp only [true_and]
      refine T_X12_law rs ?_
      rw [cl_251]
      (first | refine ⟨fun _ => ?_, fun n_ => absurd (m6 (g := cRf c (-6) 4) (fun j => (re 84 (by omega) (by omega) (by omega) (by omega)).1 j)) n_⟩ | refine ⟨fun n_ => absurd (m6 (g := cRf c (-6) 4) (fun j => (re 84 (by omega) (by omega) (by omega) (by omega)).1 j)) n_, fun _ => ?_⟩ | refine ⟨fun y_ => absurd y_ (m6 (g := cRf c (-6) 4) (fun j => (re 84 (by omega) (by omega) (by omega) (by omega)).1 j)), fun _ => ?_⟩ | refine ⟨fun _ => ?_, fun y_ => absurd y_ (m6 (g := cRf c (-6) 4) (fun j => (re 84 (by omega) (by omega) (by omega) (by omega)).1 j))⟩)
      rintro h2 rfl
      have v88 := (re 88 (by omega) (by omega) (by omega) (by omega)).1
      have v87 := (re 87 (by omega) (by omega) (by omega) (by omega)).1
      have v82 := (re 82 (by omega) (by omega) (by omega) (by omega)).1
      refine m_reads (ro := false) (D := D) (d := d) (sh_si rs) t1 (fun j hj => ⟨(t4 j hj).1, by rw [ah_i_sn (by omega), v88]; exact (t4 j hj).2.2⟩) (by rw [ah_i_sn (by omega), v82]; exact t3) (n_87 (sh_si rs)) (fun j hj => by rw [ah_i_sn (by omega), v87]; exact hw j hj) ah_i_ss (fun e2 => absurd e2 (by rw [er]; decide)) (fun _ p mf e12 => ⟨_, rfl, mf.1, ?_⟩)
      (first | refine ⟨fun _ => ?_, fun n_ => absurd (show (0 : Int32) = 0 by rfl) n_⟩ | refine ⟨fun n_ => absurd (show (0 : Int32) = 0 by rfl) n_, fun _ => ?_⟩ | refine ⟨fun y_ => absurd y_ (show (0 : Int32) = 0 by rfl), fun _ => ?_⟩ | refine ⟨fun _ => ?_, fun y_ => absurd y_ (show (0 : Int32) = 0 by rfl)⟩)
      obtain ⟨p1, p2, p3, p4, p5, p6, p7⟩ := mf
      refine m_refuses p1 why6 ⟨_, rfl, p1, _, rfl, rfl, ?_⟩
      have pe : ∀ a, a ≠ 82 → a ≠ 90 → a ≠ 91 → a ≠ 92 → eqc (cRf c (-6) 4) p a := fun a n1 n2 n3 n4 => eqc_trans (eqc_si eqc_rfl n1) (p3 a n1 n2 n3 n4)
      have p0 : ∀ j, ah_i p 0 j = if j = 17 then -6 else if j = 14 then nI (plO D d (txR false D d).2.1) else if j = 13 then 0 else ah_i h 0 j := fun j => by
        rw [(pe 0 (by decide) (by decide) (by decide) (by decide)).1, r0, c0]
      have p82 : ∀ j, j ≠ 8 → j ≠ 11 → j ≠ 12 → j ≠ 16 → j ≠ 17 → j ≠ 18 → j ≠ 19 → ah_i p 82 j = ah_i h 82 j := fun j n3 n4 n5 n6 n7 n8 n9 => by
        rw [p4 j n4 n5 n6 n7 n8 n9, ah_i_sn (by omega), v82]
      have fe : ∀ a, a < ah_x h → (a < 20 ∨ 25 < a) → a ≠ 0 → a ≠ 18 → a ≠ 82 → a ≠ 83 → a ≠ 90 → a ≠ 91 → a ≠ 92 → eqc h (mRf p (-6) 6) a := fun a h1 h2 h3 h4 h5 h6 h7 h8 h9 => eqc_trans (eqc_trans (re a h1 h2 h3 h4) (pe a h5 h7 h8 h9)) (eqc_mRf h5 h6)
      have f82 : ∀ j, j ≠ 0 → ah_i (mRf p (-6) 6) 82 j = ah_i p 82 j := fun j hj => by unfold mRf; rw [ah_i_sn (by omega), ah_i_sn (by omega)]
      have f0 : ∀ j, ah_i (mRf p (-6) 6) 0 j = ah_i p 0 j := fun j => (eqc_mRf (by decide) (by decide)).1 j
      have scf : Sc (mRf p (-6) 6) := by
        refine Sc_rf (h := h) (hC := c) why6 sc (fun j => (ce 18 (by omega) (by omega) (by omega)).1 j) (fun j => (pe 18 (by decide) (by decide) (by decide) (by decide)).1 j) (fun j => by rw [(pe 83 (by decide) (by decide) (by decide) (by decide)).1, (re 83 (by omega) (by omega) (by omega) (by omega)).1]) (by rw [p0, if_pos rfl]) ?_ ?_ ?_
        · rw [p0, if_neg (by decide), if_neg (by decide), if_neg (by decide), p82 6 (by decide) (by decide) (by decide) (by decide) (by decide) (by decide) (by decide)]; exact s7
        · rw [p0, if_neg (by decide), if_pos rfl, e12]
        · rw [p0, if_neg (by decide), if_neg (by decide), if_neg (by decide), p82 66 (by decide) (by decide) (by decide) (by decide) (by decide) (by decide) (by decide)]; exact s9
      refine inv_same (d' := 0) (D' := D) TXmp hCC hCM wf tn im dr cc cm p1 (fun a ha => fe a (by unfold stayG at ha; omega) (by unfold stayG at ha; omega) (by unfold stayG at ha; omega) (by unfold stayG at ha; omega) (by unfold stayG at ha; omega) (by unfold stayG at ha; omega) (by unfold stayG at ha; omega) (by unfold stayG at ha; omega) (by unfold stayG at ha; omega)) ?_ scf ⟨by omega, ?_, ?_, fun j hj => by omega⟩ (wB_of (fe 27 (by omega) (by omega) (by omega) (by omega) (by omega) (by omega) (by omega) (by omega) (by omega)).1) ?_ ?_ ?_ ?_ (fun j hj => ?_)
      · have : ah_x (mRf p (-6) 6) = ah_x p := by unfold mRf; rw [ah_x_si, ah_x_si]
        have : ah_x (cRf c (-6) 4) = ah_x c := by unfold cRf; rw [ah_x_si, ah_x_si]
        rw [ah_x_si] at p2
        omega
      · rw [f0, p0, if_neg (by decide), if_neg (by decide), if_pos rfl]; rfl
      · rw [f82 11 (by decide), p5]; rfl
      · rw [f82 77 (by decide), p82 77 (by decide) (by decide) (by decide) (by decide) (by decide) (by decide) (by decide)]
      · rw [f0, p0, if_neg (by decide), if_neg (by decide), if_neg (by decide)]
      · rw [f0, p0, if_neg (by decide), if_neg (by decide), if_neg (by decide)]
      · rw [f82 1 (by decide), p82 1 (by decide) (by decide) (by decide) (by decide) (by decide) (by decide) (by decide)]
      · rw [f82 j (by omega), p82 j (by omega) (by omega) (by omega) (by omega) (by omega) (by omega) (by omega)]
  · -- no room
    have h6 : A 251 = 6 := by omega
    rw [h6] at w1 w3 ⊢
    (first | refine ⟨fun _ => ?_, fun n_ => absurd (show ¬ nI 6 < 6 by decide) n_⟩ | refine ⟨fun n_ => absurd (show ¬ nI 6 < 6 by decide) n_, fun _ => ?_⟩ | refine ⟨fun y_ => absurd y_ (show ¬ nI 6 < 6 by decide), fun _ => ?_⟩ | refine ⟨fun _ => ?_, fun y_ => absurd y_ (show ¬ nI 6 < 6 by decide)⟩)
    refine c_refuse (sh_si hs) why5 ⟨_, rfl, sh_cRf (sh_si hs), _, rfl, sh_cRf (sh_si hs), ?_⟩
    have rs : Sh (cRf (ah_si h 0 13 0) (-5) 3) := sh_cRf (sh_si hs)
    have re : ∀ a, a ≠ 0 → a ≠ 18 → eqc h (cRf (ah_si h 0 13 0) (-5) 3) a := fun a h3 h4 => eqc_trans (eqc_si eqc_rfl h3) (eqc_cRf h3 h4)
    have r0 : ∀ j, ah_i (cRf (ah_si h 0 13 0) (-5) 3) 0 j = if j = 17 then -5 else if j = 13 then 0 else ah_i h 0 j := fun j => by
      unfold cRf
      rw [ah_i_sn (by omega), ah_i_si, ah_i_si]
      simp only [true_and]
    refine T_X12_law rs ?_
    rw [cl_251]
    (first | refine ⟨fun _ => ?_, fun n_ => absurd (show ah_i (cRf (ah_si h 0 13 0) (-5) 3) 84 251 = 6 by rw [(re 84 (by decide) (by decide)).1, w3]; rfl) n_⟩ | refine ⟨fun n_ => absurd (show ah_i (cRf (ah_si h 0 13 0) (-5) 3) 84 251 = 6 by rw [(re 84 (by decide) (by decide)).1, w3]; rfl) n_, fun _ => ?_⟩ | refine ⟨fun y_ => absurd y_ (show ah_i (cRf (ah_si h 0 13 0) (-5) 3) 84 251 = 6 by rw [(re 84 (by decide) (by decide)).1, w3]; rfl), fun _ => ?_⟩ | refine ⟨fun _ => ?_, fun y_ => absurd y_ (show ah_i (cRf (ah_si h 0 13 0) (-5) 3) 84 251 = 6 by rw [(re 84 (by decide) (by decide)).1, w3]; rfl)⟩)
    rintro h21 rfl
    refine m_refuses (sh_si rs) why5 ⟨_, rfl, sh_si rs, _, rfl, rfl, ?_⟩
    have fe : ∀ a, a ≠ 0 → a ≠ 18 → a ≠ 82 → a ≠ 83 → eqc h (mRf (ah_si (cRf (ah_si h 0 13 0) (-5) 3) 82 11 0) (-5) 5) a := fun a h3 h4 h5 h6 => eqc_trans (eqc_trans (re a h3 h4) (eqc_si eqc_rfl h5)) (eqc_mRf h5 h6)
    have p82 : ∀ j, j ≠ 11 → ah_i (ah_si (cRf (ah_si h 0 13 0) (-5) 3) 82 11 0) 82 j = ah_i h 82 j := fun j hj => by rw [ah_i_sn (by omega), (re 82 (by decide) (by decide)).1]
    have p0 : ∀ j, ah_i (ah_si (cRf (ah_si h 0 13 0) (-5) 3) 82 11 0) 0 j = if j = 17 then -5 else if j = 13 then 0 else ah_i h 0 j := fun j => by rw [ah_i_sn (by omega), r0]
    have f82 : ∀ j, j ≠ 0 → ah_i (mRf (ah_si (cRf (ah_si h 0 13 0) (-5) 3) 82 11 0) (-5) 5) 82 j = ah_i (ah_si (cRf (ah_si h 0 13 0) (-5) 3) 82 11 0) 82 j := fun j hj => by unfold mRf; rw [ah_i_sn (by omega), ah_i_sn (by omega)]
    have f0 : ∀ j, ah_i (mRf (ah_si (cRf (ah_si h 0 13 0) (-5) 3) 82 11 0) (-5) 5) 0 j = ah_i (ah_si (cRf (ah_si h 0 13 0) (-5) 3) 82 11 0) 0 j := fun j => (eqc_mRf (by decide) (by decide)).1 j
    have scf : Sc (mRf (ah_si (cRf (ah_si h 0 13 0) (-5) 3) 82 11 0) (-5) 5) := by
      refine Sc_rf (h := h) (hC := ah_si h 0 13 0) why5 sc (fun j => ah_i_sn (by omega)) (fun j => ah_i_sn (by omega)) (fun j => by rw [ah_i_sn (by omega), (re 83 (by decide) (by decide)).1]) (by rw [p0, if_pos rfl]) ?_ ?_ ?_
      · rw [p0, if_neg (by decide), if_neg (by decide), p82 6 (by decide)]; exact s7
      · rw [p0, if_neg (by decide), if_neg (by decide), p82 12 (by decide)]; exact s8
      · rw [p0, if_neg (by decide), if_neg (by decide), p82 66 (by decide)]; exact s9
    refine inv_same (d' := 0) (D' := D) TXmp hCC hCM wf tn im dr cc cm rs (fun a ha => fe a (by unfold stayG at ha; omega) (by unfold stayG at ha; omega) (by unfold stayG at ha; omega) (by unfold stayG at ha; omega)) (Nat.le_refl _) scf ⟨by omega, ?_, ?_, fun j hj => by omega⟩ (wB_of (fe 27 (by omega) (by omega) (by omega) (by omega)).1) ?_ ?_ ?_ ?_ (fun j hj => ?_)
    · rw [f0, p0, if_neg (by decide), if_pos rfl]; rfl
    · rw [f82 11 (by decide), ah_i_ss]; rfl
    · rw [f82 77 (by decide), p82 77 (by decide)]
    · rw [f0, p0, if_neg (by decide), if_neg (by decide)]
    · rw [f0, p0, if_neg (by decide), if_neg (by decide)]
    · rw [f82 1 (by decide), p82 1 (by decide)]
    · rw [f82 j (by omega), p82 j (by omega)]
end LW
