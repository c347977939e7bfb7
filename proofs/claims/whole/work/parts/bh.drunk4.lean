section DK4
variable {KX : ah_T → Prop} {RX WX SX : (Nat → Nat) → ah_T → Prop} {A : Nat → Nat} {h g h1 u w : ah_T} {g0 n c seed k N : Nat} {p : Nat → Nat}
theorem q_60 {x : Int32} : f_X12_lies x 1 60 = 0 ↔ (x < 1 ∨ ¬ x ≤ 60) := by unfold f_X12_lies; grind
theorem q_mil (x : Int32) : f_X12_lies x 0 1000000 = f_X11_isIn x 1000001 := by unfold f_X12_lies f_X11_isIn; grind
theorem rel_drunk (X : XP KX RX WX) (hW : hWp KX RX) (hS : SXp SX) (x1 x2 x3 x4 : Int32) : lw_RC (Inv TXm (CCg KX RX WX) (CMg SX) (n + 1)) (Inv TXm (CCg KX RX WX) (CMg SX) n) mX11_drunk mX12_drunk [.int x1, .int x2, .int x3, .int x4] := by
  intro h hI
  have hTX := TXmp
  have hCC := CCg_p X hW
  have hCM := CMg_p hS
  obtain ⟨hs, A, p⟩ := pre_of hI
  have h10 := (mQs_p p).2.2.1.2.2.2.1.1
  have no : (f_X11_isIn x1 1000001 = 0 ∨ f_X11_isIn x2 6 = 0 ∨ f_X11_isIn x3 12 = 0 ∨ f_X12_lies x4 1 60 = 0) → Mt mX11_refuse [.ref 0, .int (-1)] h (ab_qi fun v h1 => Sh h1 ∧ (ab_qi fun v h1 => Sh h1 ∧ Mt mX12_drunk (.ref 82 :: [.int x1, .int x2, .int x3, .int x4]) h1 (ab_qi fun w h2 => v = w ∧ Inv TXm (CCg KX RX WX) (CMg SX) n h2)) (some (.int v)) h1) := by
    intro o
    refine rl_rf hs why1 (T_X12_drunk (sh_cRf hs) _ _ _ _ ?_)
    have bad := rl_mf hTX hCC hCM hI why1
    simp only [q_mil, q_kind, q_corner]
    refine ⟨fun _ => bad, fun y1 => ⟨fun _ => bad, fun y2 => ⟨fun _ => bad, fun y3 => ⟨fun y4 => ?_, fun _ => bad⟩⟩⟩⟩
    rcases o with z | z | z | z
    · exact absurd z y1
    · exact absurd z y2
    · exact absurd z y3
    · exact absurd z y4
  refine T_X11_drunk hs _ _ _ _ ⟨fun y => no (.inl y), fun y1 => ⟨fun y => no (.inr (.inl y)), fun y2 => ⟨fun y => no (.inr (.inr (.inl y))), fun y3 => ⟨fun y => no (.inr (.inr (.inr (q_60.mpr (.inl y))))), fun y4 => ⟨fun y5 => ?_, fun y => no (.inr (.inr (.inr (q_60.mpr (.inr y)))))⟩⟩⟩⟩⟩
  have yes : ¬ f_X12_lies x4 1 60 = 0 := fun y => (q_60.mp y).elim y4 (fun z => z y5)
  obtain ⟨seed, hsd, rfl⟩ := q_isn (n := 1000001) (by decide) y1
  obtain ⟨k, hk, rfl⟩ := q_isn (n := 6) (by decide) y2
  obtain ⟨c, hc, rfl⟩ := q_isn (n := 12) (by decide) y3
  obtain ⟨N, hN, rfl⟩ : ∃ N, N ≤ 60 ∧ x4 = nI N := by
    have a : ¬ x4 < 0 := by grind
    have b : x4 < nI 61 := by
      have e : nI 61 = 61 := rfl
      rw [e]; grind
    obtain ⟨j, hj, ej⟩ := nI_ltO a b (by omega)
    exact ⟨j, by omega, ej⟩
  refine lk3 hs X hS p (fun h6 g' f6 p6 lk6 => ?_)
  have s6 := f6.1
  have wf : WF A := by
    obtain ⟨⟨_, _, _, _, wf, _⟩, _⟩ := p6
    exact wf
  have cor6 := lk6.1
  refine c_stagger s6 wf.1 cor6.2.2.2.2.1 cor6.2.2.2.1.1 hc (show seed ≤ 1000003 by omega) hN rfl rfl rfl (fun h7 s7 x7 f7 t7 => ⟨rfl, s7, ?_⟩)
  have lt12 : ∀ i, (dk A N seed c i).2 < 12 := fun i => (dk_lt (n := N) wf.1 hc (show seed ≤ 1000003 by omega) i).2
  have tm7 : tmN g' A h7 := tmN_w (fun a ha => f7 a (by omega)) x7 cor6.2.1
  have d7 : cND A (nd0 A) 0 h7 := cND_fr (fun a ha => (f7 a (by omega)).1) (fun j _ => (f7 43 (by decide)).1 j) cor6.2.2.1
  have t7' : cTw A h7 := cTw_fr (fun a ha => (f7 a (by omega)).1) cor6.1
  refine c_litWith (p := fun m => (dk A N seed c m).2 + 1) s7 t7' tm7 d7 hk (fun m hm => ⟨by rw [t7 m hm, nO_s], lt12 m⟩) rfl (fun h8 f8 tm8 d8 => ⟨_, rfl, f8.1, ?_⟩)
  refine c_grant f8.1 _ ⟨_, rfl, f8.1, _, rfl, f8.1, ?_⟩
  obtain ⟨e, ee⟩ : ∃ e, e = ah_si h8 0 17 0 := ⟨_, rfl⟩
  rw [← ee]
  have se : Sh e := by rw [ee]; exact sh_si f8.1
  have ea : ∀ a, a ≠ 0 → a ≠ 19 → (a < 26 ∨ (28 < a ∧ a < 39) ∨ 53 < a) → eqc h6 e a := fun a n1 n2 n3 => by rw [ee]; exact eqc_si (eqc_trans (f7 a n2) (f8.2.2.1 a n3)) n1
  have e0 : ∀ j, j ≠ 17 → ah_i e 0 j = ah_i h6 0 j := fun j n1 => by rw [ee, ah_i_sn (by omega), (f8.2.2.1 0 (by omega)).1, (f7 0 (by decide)).1]
  have ex : ah_x e = ah_x h6 := by rw [ee, ah_x_si, f8.2.1, x7]
  have lke : lkO KX RX WX g' A e := lkO_w X ex (fun a ha => ea a (by omega) (by omega) (by omega)) (e0 18 (by decide)) (e0 19 (by decide)) (tmN_w (fun a ha => by rw [ee]; exact eqc_si eqc_rfl (by omega)) (by rw [ee, ah_x_si]) tm8) (cND_fr (fun a ha => by rw [ee]; exact fun j => ah_i_sn (by omega)) (fun j _ => by rw [ee]; exact ah_i_sn (by omega)) d8) lk6
  have e19 : ∀ j, j < 120 → ah_i e 19 j = nI (dk A N seed c j).2 := fun j hj => by rw [ee, ah_i_sn (by omega), (f8.2.2.1 19 (by omega)).1]; exact t7 j hj
  have e82 : ∀ j, ah_i e 82 j = ah_i h6 82 j := (ea 82 (by decide) (by decide) (by omega)).1
  have mqe : mQs A e := by
    obtain ⟨b1, b2, b3, b4⟩ := mQs_p p6
    have q : ∀ a, 81 < a → ∀ j, ah_i e a j = ah_i h6 a j := fun a n1 => (ea a (by omega) (by omega) (by omega)).1
    exact ⟨mLw_fr (q 84 (by omega)) b1, mKn_e (fun a ha => q a (by omega)) (e82 29) (e82 1) b2, mTw_fr (q 84 (by omega)) b3, mSw_fr (q 84 (by omega)) b4⟩
  -- the model
  refine T_X12_drunk se _ _ _ _ ?_
  simp only [q_mil, q_kind, q_corner]
  (first | refine ⟨fun _ => ?_, fun n_ => absurd (y1) n_⟩ | refine ⟨fun n_ => absurd (y1) n_, fun _ => ?_⟩ | refine ⟨fun y_ => absurd y_ (y1), fun _ => ?_⟩ | refine ⟨fun _ => ?_, fun y_ => absurd y_ (y1)⟩)
  (first | refine ⟨fun _ => ?_, fun n_ => absurd (y2) n_⟩ | refine ⟨fun n_ => absurd (y2) n_, fun _ => ?_⟩ | refine ⟨fun y_ => absurd y_ (y2), fun _ => ?_⟩ | refine ⟨fun _ => ?_, fun y_ => absurd y_ (y2)⟩)
  (first | refine ⟨fun _ => ?_, fun n_ => absurd (y3) n_⟩ | refine ⟨fun n_ => absurd (y3) n_, fun _ => ?_⟩ | refine ⟨fun y_ => absurd y_ (y3), fun _ => ?_⟩ | refine ⟨fun _ => ?_, fun y_ => absurd y_ (y3)⟩)
  (first | refine ⟨fun _ => ?_, fun n_ => absurd (yes) n_⟩ | refine ⟨fun n_ => absurd (yes) n_, fun _ => ?_⟩ | refine ⟨fun y_ => absurd y_ (yes), fun _ => ?_⟩ | refine ⟨fun _ => ?_, fun y_ => absurd y_ (yes)⟩)
  have z0 : Int32.toNatClampNeg 0 = 0 := rfl
  rw [z0]
  intro h14 q14 h17 q17 h20 q20
  have f20 : drF e h20 := by rw [q20, q17, q14]; exact drF_s (.inl rfl) (drF_s (.inr ⟨rfl, .inl ⟨rfl, rfl⟩⟩) (drF_s (.inr ⟨rfl, .inr rfl⟩) ⟨se, rfl, fun _ _ _ => eqc_rfl, fun _ _ _ => rfl, fun y => y⟩))
  have i77 : ah_i h20 82 77 = 1 := by rw [q20, ah_i_sn (by omega), q17, ah_i_ss]
  refine m_drunk f20.1 (mQs_d f20 mqe) wf.1 h10 (show seed ≤ 1000003 by omega) hk hc hN (by rw [q20, ah_i_sn (by omega), q17, ah_i_sn (by omega), q14, ah_i_ss]) (by rw [q20, ah_i_ss]) (fun v3 v f3 ly mqv v49 v122 v47 => ?_)
  rw [v47]
  refine rl_go ly.1 rfl ?_
  show Inv TXm (CCg KX RX WX) (CMg SX) n (god v)
  have av : ∀ a, a < 82 → eqc e (god v) a := fun a ha => god_eq (eqc_trans (f20.2.2.1 a (by omega) (by omega)) (eqc_trans (f3.2.2.1 a (by omega) (by omega)) (ly.2.2.1 a (by omega) (by omega) (by omega)))) (by omega)
  have bv : ∀ a, (83 ≤ a ∧ a ≤ 88) ∨ 123 ≤ a → eqc e (god v) a := fun a ha => god_eq (eqc_trans (f20.2.2.1 a (by omega) (by omega)) (eqc_trans (f3.2.2.1 a (by omega) (by omega)) (ly.2.2.1 a (by omega) (by omega) (by omega)))) (by omega)
  have v82 : ∀ j, (j < 20 ∨ 49 < j) → j ≠ 77 → j ≠ 78 → ah_i v 82 j = ah_i h20 82 j := fun j h1 h2 h3 => by rw [ly.2.2.2 j h1, f3.2.2.2.1 j h2 h3]
  have v82e : ∀ j, (j < 20 ∨ 49 < j) → j ≠ 77 → j ≠ 78 → ah_i v 82 j = ah_i e 82 j := fun j h1 h2 h3 => by rw [v82 j h1 h2 h3, f20.2.2.2.1 j h2 h3]
  have gx : ah_x (god v) = ah_x e := by rw [x_god, ly.2.1, f3.2.1, f20.2.1]
  obtain ⟨_, _, ⟨ver, c1, c2, c3, c4⟩, _⟩ := p
  obtain ⟨pb, _, _, ⟨gg, c5, c6⟩, c7, _⟩ := p6
  have h6_82 : ∀ j, ah_i h6 82 j = ah_i h 82 j := (f6.2.2.1 82 (by omega)).1
  have e1 : ah_i v 82 1 = nI ver := by rw [v82e 1 (by omega) (by decide) (by decide), e82, h6_82, c1]
  have g1 : ah_i (god v) 82 1 = nI (ver + 1) := by rw [god_82, if_pos rfl, e1, nI_1]
  have gj : ∀ j, j ≠ 0 → j ≠ 1 → ah_i (god v) 82 j = ah_i v 82 j := fun j n0 n1 => by rw [god_82, if_neg n1, if_neg n0]
  have g62 : ah_i (god v) 82 62 = ah_i h 82 62 := by rw [gj 62 (by decide) (by decide), v82e 62 (by omega) (by decide) (by decide), e82, h6_82]
  have g49 : ah_i (god v) 82 49 = -1 := by rw [gj 49 (by decide) (by decide), v49]
  have m1 : (-1 : Int32).toInt = -1 := by decide
  refine inv_of (sh_god ly.1) ⟨?_, ?_, ⟨ver + 1, g1, by omega, by rw [g49, m1]; omega, by rw [g62]; omega⟩, ⟨gg, by rw [(av 38 (by omega)).2.1, (ea 38 (by decide) (by decide) (by omega)).2.1]; exact c5, c6⟩, fun j hj => by rw [(bv 87 (by omega)).1, (ea 87 (by decide) (by decide) (by omega)).1]; exact c7 j hj, ?_, ?_, hS.2 A (god v) ?_⟩
  · refine bsO_d (h := h6) (by rw [gx, ex]; exact Nat.le_refl _) (fun a ha => ?_) (fun j n1 _ _ => by rw [(av 0 (by omega)).1]; exact e0 j n1) (fun j hj => ?_) ?_ ?_ pb
    · by_cases z : a < 82
      · exact eqc_trans (ea a (by omega) (by omega) (by omega)) (av a z)
      · exact eqc_trans (ea a (by omega) (by omega) (by omega)) (bv a (by omega))
    · rw [gj j (by omega) (by omega), v82e j (by omega) (by omega) (by omega), e82]
    · rw [(av 0 (by omega)).1, ee, ah_i_ss, god_82, if_neg (by decide), if_pos rfl]
    · refine .inr ⟨?_, fun j hj => ⟨(dk A N seed c j).2, lt12 j, ?_, ?_⟩⟩
      · rw [gj 77 (by decide) (by decide), ly.2.2.2 77 (by omega)]
        exact f3.2.2.2.2 i77
      · rw [(av 19 (by omega)).1]; exact e19 j hj
      · rw [god_i (by decide)]; exact v122 j hj
  · refine hCC.1 A e (god v) (lkO_cc lke) ⟨fun a h1 h2 => av a h2, fun x h1 _ _ i hi => bv _ (by omega), Nat.le_of_eq gx.symm, fun x h1 _ _ _ => bv x (by omega), wB_of (av 27 (by omega)).1⟩ ((av 0 (by omega)).1 18) ((av 0 (by omega)).1 19)
  · have kv : (ah_i v 82 29).toInt ≤ (ah_i v 82 1).toInt := mqv.2.1.1
    rw [e1, nI_toInt (by omega)] at kv
    refine ⟨?_, fun y => ?_⟩
    · unfold kvO
      rw [gj 29 (by decide) (by decide), g1, nI_toInt (by omega)]
      omega
    · rw [gj 29 (by decide) (by decide), g1] at y
      rw [y, nI_toInt (by omega)] at kv
      omega
  · intro y
    rw [g49, g1] at y
    exact absurd y (nI_m1' (by omega))
  · rw [g62, g1]
    intro y
    rw [y, nI_toInt (by omega)] at c4
    omega
end DK4
