/-! ===== row on both sides ===== -/
section RO
variable {TX : ah_T → Nat → (Nat → Nat) → (Nat → Nat) → Nat → Prop} {CC : (Nat → Nat) → ah_T → Prop} {CM : Nat → (Nat → Nat) → ah_T → Prop} {n : Nat}
theorem rel_row (hTX : TXp TX) (hCC : CCp CC) (hCM : CMp CM) : lw_RC (Inv TX CC CM (n + 1)) (Inv TX CC CM n) mX11_row mX12_row [] := by
  intro h hI
  have hI' := hI
  obtain ⟨hs, A, B0, B1, d, D, wf, tn, im, sc, tp, dr, cc, cm⟩ := hI'
  obtain ⟨t1, t2, t3, t4⟩ := tp
  refine T_X11_row hs (T_X11_takeTape hs ?_)
  rintro h1 rfl
  rw [t2]
  refine ⟨_, rfl, sh_si hs, ?_⟩
  rcases Nat.eq_zero_or_pos d with z | z
  · subst z
    rw [si_same (show ah_i h 0 13 = 0 from t2)]
    (first | refine ⟨fun _ => ?_, fun n_ => absurd (show nI 0 = 0 by rfl) n_⟩ | refine ⟨fun n_ => absurd (show nI 0 = 0 by rfl) n_, fun _ => ?_⟩ | refine ⟨fun y_ => absurd y_ (show nI 0 = 0 by rfl), fun _ => ?_⟩ | refine ⟨fun _ => ?_, fun y_ => absurd y_ (show nI 0 = 0 by rfl)⟩)
    refine rl_rf hs why6 (T_X12_row (sh_cRf hs) ?_)
    have e11 : ah_i (cRf h (-6) 4) 82 11 = 0 := by rw [rf_84 (by decide) (by decide)]; exact t3
    rintro h1 rfl
    rw [si_same e11]
    (first | refine ⟨fun _ => ?_, fun n_ => absurd (e11) n_⟩ | refine ⟨fun n_ => absurd (e11) n_, fun _ => ?_⟩ | refine ⟨fun y_ => absurd y_ (e11), fun _ => ?_⟩ | refine ⟨fun _ => ?_, fun y_ => absurd y_ (e11)⟩)
    exact rl_mf hTX hCC hCM hI why6
  · (first | refine ⟨fun _ => ?_, fun n_ => absurd (show ¬ nI d = 0 from nI_ne0 z (by omega)) n_⟩ | refine ⟨fun n_ => absurd (show ¬ nI d = 0 from nI_ne0 z (by omega)) n_, fun _ => ?_⟩ | refine ⟨fun y_ => absurd y_ (show ¬ nI d = 0 from nI_ne0 z (by omega)), fun _ => ?_⟩ | refine ⟨fun _ => ?_, fun y_ => absurd y_ (show ¬ nI d = 0 from nI_ne0 z (by omega))⟩)
    have hm3 : nI d - nI d / 3 * 3 = nI (d % 3) := pk_rem (a := d) (d := 3) (by omega) (by decide) (by decide)
    have hd3 : d % 3 < 3 := Nat.mod_lt _ (by decide)
    rw [hm3]
    have main : ∀ e0 : Nat, e0 = (if d % 3 = 0 then 0 else 1) → Wp mX11_row (rQ (Inv TX CC CM n) mX12_row [.ref 82]) 0 0 42 [some (.ref 0), some (.int (nI d)), some (.int (ah_i (ah_si h 0 13 0) 6 3)), some (.int (nI e0)), some (.int 0)] [] (ah_si h 0 13 0) := by
      intro e0 he0
      have he1 : e0 ≤ 1 := by rw [he0]; split <;> omega
      have c0 : c6 A (ah_si h 0 13 0) := c6_of wf tn (fun j => ah_i_sn (by omega)) (fun j => ah_i_sn (by omega)) (fun j => ah_i_sn (by omega))
      refine c_row_k (D := D) wf t1 e0 he1 _ (d / 3) 0 _ (by omega) (sh_si hs) c0 (fun j hj => by rw [ah_i_sn (by omega)]; exact (t4 j hj).2.1) (fun h' w1 w2 w3 w4 => ?_)
      have hwK := wf_rA (D := D) wf (d / 3)
      have hcK := rA_c (D := D) wf (d / 3)
      have hfK := rF_le (D := D) wf (d / 3)
      obtain ⟨g1, g2, g3, g4, g5, g6, g7⟩ := w3
      have ev : ah_i (ah_si h' 0 15 (nI (e0 + rF D A (d / 3)))) 6 3 - ah_i (ah_si h 0 13 0) 6 3 = nI (d / 3 - rF D A (d / 3)) := by
        rw [ah_i_sn (by omega), ah_i_sn (by omega), g5, (cp3_m tn.2.2.1).2.2.1, nI_sub (by omega)]
        congr 1
        omega
      rw [ev]
      refine rl_ch (sh_si w1) ?_
      have hsC : Sh (chg (ah_si h' 0 15 (nI (e0 + rF D A (d / 3))))) := sh_chg (sh_si w1)
      have eC : ∀ a, a ≠ 0 → a ≠ 6 → a ≠ 7 → eqc h (chg (ah_si h' 0 15 (nI (e0 + rF D A (d / 3))))) a := fun a n0 n1 n2 => chg_eq (eqc_si (eqc_trans (eqc_si eqc_rfl n0) (w4 a n1 n2)) n0) n0
      have e0C : ∀ j, ah_i (chg (ah_si h' 0 15 (nI (e0 + rF D A (d / 3))))) 0 j = if j = 17 then 0 else if j = 19 then 1 else if j = 15 then nI (e0 + rF D A (d / 3)) else if j = 13 then 0 else ah_i h 0 j := fun j => by
        rw [chg_0, ah_i_si, (w4 0 (by decide) (by decide)).1, ah_i_si]
        simp only [true_and]
      have c6C : c6 (rA D A (d / 3)) (chg (ah_si h' 0 15 (nI (e0 + rF D A (d / 3))))) :=
        ⟨by rw [chg_i (by decide), ah_i_sn (by omega)]; exact g1, g2, by rw [chg_i (by decide), ah_i_sn (by omega)]; exact g3, by rw [chg_i (by decide), ah_i_sn (by omega)]; exact g4, by rw [chg_i (by decide), ah_i_sn (by omega)]; exact g5, g6, fun j hj => by rw [chg_i (by decide), ah_i_sn (by omega)]; exact g7 j hj⟩
      have xC : ah_x (chg (ah_si h' 0 15 (nI (e0 + rF D A (d / 3))))) = ah_x h := by rw [x_chg, ah_x_si, w2, ah_x_si]
      show Mt _ _ (chg (ah_si h' 0 15 (nI (e0 + rF D A (d / 3))))) _
      revert hsC eC e0C c6C xC
      generalize chg (ah_si h' 0 15 (nI (e0 + rF D A (d / 3)))) = hC
      intro hsC eC e0C c6C xC
      refine T_X12_row hsC ?_
      rintro h1 rfl
      have e11 : ah_i hC 82 11 = nI d := by rw [(eC 82 (by decide) (by decide) (by decide)).1]; exact t3
      rw [e11, hm3]
      (first | refine ⟨fun _ => ?_, fun n_ => absurd (show ¬ nI d = 0 from nI_ne0 z (by omega)) n_⟩ | refine ⟨fun n_ => absurd (show ¬ nI d = 0 from nI_ne0 z (by omega)) n_, fun _ => ?_⟩ | refine ⟨fun y_ => absurd y_ (show ¬ nI d = 0 from nI_ne0 z (by omega)), fun _ => ?_⟩ | refine ⟨fun _ => ?_, fun y_ => absurd y_ (show ¬ nI d = 0 from nI_ne0 z (by omega))⟩)
      have go : Wp mX12_row (ab_qi fun w h2 => nI (d / 3 - rF D A (d / 3)) = w ∧ Inv TX CC CM n h2) 0 0 40 [some (.ref 82), some (.int (nI d)), some (.int (nI (0 - rF D A 0))), some (.int (nI (3 * 0))), none] [] (ah_si (ah_si hC 82 11 0) 82 6 (nI e0)) := by
        have m0 : m6 A (ah_si (ah_si hC 82 11 0) 82 6 (nI e0)) := m6_of wf tn (fun j => by rw [ah_i_sn (by omega), ah_i_sn (by omega), (eC 84 (by decide) (by decide) (by decide)).1])
        refine m_row_k (D := D) wf t1 (fun j hj => (t4 j hj).1) e0 he1 (d / 3) 0 _ (by omega) (sh_si (sh_si hsC)) m0 (fun j hj => by rw [ah_i_sn (by omega), ah_i_sn (by omega), (eC 88 (by decide) (by decide) (by decide)).1]; exact (t4 j hj).2.2) (by rw [ah_i_ss]; rfl) (Nat.le_refl _) (fun h2 v1 v2 v3 v4 v5 v6 v7 => ?_)
        refine rl_go v1 rfl ?_
        show Inv TX CC CM n (god h2)
        have e82 : ∀ j, j ≠ 0 → j ≠ 1 → j ≠ 6 → j ≠ 11 → ah_i (god h2) 82 j = ah_i h 82 j := fun j n0 n1 n6 n11 => by rw [god_82, if_neg n1, if_neg n0, v5 j n6, ah_i_sn (by omega), ah_i_sn (by omega), (eC 82 (by decide) (by decide) (by decide)).1]
        have e82' : ah_i h2 82 1 = ah_i h 82 1 := by rw [v5 1 (by decide), ah_i_sn (by omega), ah_i_sn (by omega), (eC 82 (by decide) (by decide) (by decide)).1]
        have eF : ∀ a, a ≠ 0 → a ≠ 6 → a ≠ 7 → a ≠ 82 → a ≠ 84 → eqc h (god h2) a := fun a n0 n1 n2 n3 n4 => god_eq (eqc_trans (eqc_trans (eC a n0 n1 n2) (eqc_si (eqc_si eqc_rfl n3) n3)) (v4 a n3 n4)) n3
        have fH : ∀ a, a ≠ 82 → a ≠ 84 → ∀ j, ah_i (god h2) a j = ah_i hC a j := fun a n3 n4 j => by rw [god_i n3, (v4 a n3 n4).1, ah_i_sn (by omega), ah_i_sn (by omega)]
        have f0 : ∀ j, ah_i (god h2) 0 j = if j = 17 then 0 else if j = 19 then 1 else if j = 15 then nI (e0 + rF D A (d / 3)) else if j = 13 then 0 else ah_i h 0 j := fun j => by rw [fH 0 (by decide) (by decide), e0C]
        obtain ⟨s1, s2, s3, s4, s5, s6, s7, s8, s9⟩ := sc
        have f18 := (eF 18 (by decide) (by decide) (by decide) (by decide) (by decide)).1
        have f83 := (eF 83 (by decide) (by decide) (by decide) (by decide) (by decide)).1
        refine inv_sw (A' := rA D A (d / 3)) (d' := 0) (D' := D) hTX hCC hCM wf tn im dr cc cm (sh_god v1) (fun a ha => eF a (by unfold stay at ha; omega) (by unfold stay at ha; omega) (by unfold stay at ha; omega) (by unfold stay at ha; omega) (by unfold stay at ha; omega)) (by rw [x_god, v2, ah_x_si, ah_x_si, xC]; exact Nat.le_refl _) hwK ?_ ?_ (fun j h5 hj h7 => ⟨?_, rA_n wf hj h7 _⟩) ?_ ⟨by omega, ?_, ?_, fun j hj => by omega⟩ ?_ ?_ ?_ ?_ (fun j hj => e82 j (by omega) (by omega) (by omega) (by omega))
        · obtain ⟨u1, u2, u3, u4, u5, u6, u7⟩ := c6C
          exact ⟨by rw [fH 4 (by decide) (by decide)]; exact u1, u2, by rw [fH 6 (by decide) (by decide)]; exact u3, by rw [fH 6 (by decide) (by decide)]; exact u4, by rw [fH 6 (by decide) (by decide)]; exact u5, u6, fun j hj => by rw [fH 7 (by decide) (by decide)]; exact u7 j hj⟩
        · obtain ⟨u1, u2, u3, u4, u5⟩ := v3
          exact ⟨by rw [god_i (by decide)]; exact u1, u2, by rw [god_i (by decide)]; exact u3, u4, fun j hj => by rw [god_i (by decide)]; exact u5 j hj⟩
        · rw [god_i (by decide), v7 j hj h7, ah_i_sn (by omega), ah_i_sn (by omega), (eC 84 (by decide) (by decide) (by decide)).1]
        · refine ⟨by rw [f0, if_pos rfl, god_82, if_neg (by decide), if_pos rfl], by rw [f18, f83]; exact s2, by rw [f18, f83]; exact s3, by rw [f18, f83]; exact s4, by rw [f18, f83]; exact s5, by rw [f18, f83]; exact s6, ?_, ?_, ?_⟩
          · rw [f0, if_neg (by decide), if_neg (by decide), if_pos rfl, god_82, if_neg (by decide), if_neg (by decide), v6]
          · rw [f0, if_neg (by decide), if_neg (by decide), if_neg (by decide), if_neg (by decide), e82 12 (by decide) (by decide) (by decide) (by decide)]
            exact s8
          · rw [f0, if_neg (by decide), if_neg (by decide), if_neg (by decide), if_neg (by decide), e82 66 (by decide) (by decide) (by decide) (by decide)]
            exact s9
        · rw [f0, if_neg (by decide), if_neg (by decide), if_neg (by decide), if_pos rfl]; rfl
        · rw [god_82, if_neg (by decide), if_neg (by decide), v5 11 (by decide), ah_i_sn (by omega), ah_i_ss]; rfl
        · exact e82 77 (by decide) (by decide) (by decide) (by decide)
        · rw [f0, if_neg (by decide), if_pos rfl]
        · rw [f0, if_neg (by decide), if_neg (by decide), if_neg (by decide), if_neg (by decide)]
        · rw [god_82, if_pos rfl, e82']
      by_cases c3 : d % 3 = 0
      · rw [if_pos c3] at he0
        subst he0
        (first | refine ⟨fun _ => ?_, fun n_ => absurd (show nI (d % 3) = 0 by rw [c3]; rfl) n_⟩ | refine ⟨fun n_ => absurd (show nI (d % 3) = 0 by rw [c3]; rfl) n_, fun _ => ?_⟩ | refine ⟨fun y_ => absurd y_ (show nI (d % 3) = 0 by rw [c3]; rfl), fun _ => ?_⟩ | refine ⟨fun _ => ?_, fun y_ => absurd y_ (show nI (d % 3) = 0 by rw [c3]; rfl)⟩)
        rintro h9 rfl
        exact go
      · rw [if_neg c3] at he0
        subst he0
        (first | refine ⟨fun _ => ?_, fun n_ => absurd (show ¬ nI (d % 3) = 0 from nI_ne0 (by omega) (by omega)) n_⟩ | refine ⟨fun n_ => absurd (show ¬ nI (d % 3) = 0 from nI_ne0 (by omega) (by omega)) n_, fun _ => ?_⟩ | refine ⟨fun y_ => absurd y_ (show ¬ nI (d % 3) = 0 from nI_ne0 (by omega) (by omega)), fun _ => ?_⟩ | refine ⟨fun _ => ?_, fun y_ => absurd y_ (show ¬ nI (d % 3) = 0 from nI_ne0 (by omega) (by omega))⟩)
        rintro h6 rfl
        exact go
    by_cases c3 : d % 3 = 0
    · (first | refine ⟨fun _ => ?_, fun n_ => absurd (show nI (d % 3) = 0 by rw [c3]; rfl) n_⟩ | refine ⟨fun n_ => absurd (show nI (d % 3) = 0 by rw [c3]; rfl) n_, fun _ => ?_⟩ | refine ⟨fun y_ => absurd y_ (show nI (d % 3) = 0 by rw [c3]; rfl), fun _ => ?_⟩ | refine ⟨fun _ => ?_, fun y_ => absurd y_ (show nI (d % 3) = 0 by rw [c3]; rfl)⟩)
      exact main 0 (by rw [if_pos c3])
    · (first | refine ⟨fun _ => ?_, fun n_ => absurd (show ¬ nI (d % 3) = 0 from nI_ne0 (by omega) (by omega)) n_⟩ | refine ⟨fun n_ => absurd (show ¬ nI (d % 3) = 0 from nI_ne0 (by omega) (by omega)) n_, fun _ => ?_⟩ | refine ⟨fun y_ => absurd y_ (show ¬ nI (d % 3) = 0 from nI_ne0 (by omega) (by omega)), fun _ => ?_⟩ | refine ⟨fun _ => ?_, fun y_ => absurd y_ (show ¬ nI (d % 3) = 0 from nI_ne0 (by omega) (by omega))⟩)
      exact main 1 (by rw [if_neg c3])
end RO
