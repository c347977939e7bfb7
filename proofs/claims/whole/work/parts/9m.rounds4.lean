/-! ===== rounds on both sides: the relation ===== -/
section RR
variable {CC : (Nat → Nat) → ah_T → Prop} {CM : Nat → (Nat → Nat) → ah_T → Prop} {n : Nat}
theorem rel_rounds (hCC : CCp CC) (hCM : CMp CM) (hCW : CMw CM) (hCw : CCw CC) : lw_RC (Inv TXm CC CM (n + 1)) (Inv TXm CC CM n) mX11_rounds mX12_rounds [] := by
  intro h hI
  have hI' := hI
  obtain ⟨hs, A, B0, B1, d, D, wf, tn, im, sc, tp, dr, cc, cm⟩ := hI'
  obtain ⟨t1, t2, t3, t4⟩ := tp
  have hw := hCW _ _ _ cm
  have hwB := hCw _ _ cc
  have hx3 := hs.2.2
  have h24 := wf.2.2.1.1
  have h10 := wf.2.1.1
  have c60 : c6 A h := c6_of wf tn (fun _ => rfl) (fun _ => rfl) (fun _ => rfl)
  have m60 : m6 A h := m6_of wf tn (fun _ => rfl)
  have hT := tn.2.2.2.2.2.2.1 0 (by omega)
  simp only [Nat.zero_add] at hT
  refine T_X11_rounds hs (T_X11_takeTape hs ?_)
  rintro h1 rfl
  rw [t2]
  refine ⟨_, rfl, sh_si hs, ?_⟩
  have x1 : ah_x (ah_si h 0 13 0) = ah_x h := ah_x_si _ _ _ _
  -- the model reads, too
  have mrd : ∀ {u : ah_T} {P : Option Value → ah_T → Prop} {v : Bool}, Sh u → (∀ a, a < ah_x h → (a < 20 ∨ 28 < a) → a ≠ 0 → a ≠ 6 → a ≠ 7 → a ≠ 18 → eqc h u a) → (txR true D d).1 = v → (∀ p, mrF D d (ah_si (ah_si u 82 66 (-1)) 82 8 1) p → (v = true → ah_i p 82 12 = -1) → (v = false → ah_i p 82 12 = nI (plO D d (txR true D d).2.1)) → P (some (.int (bI v))) p) → Mt mX12_reads [.ref 82] (ah_si (ah_si u 82 66 (-1)) 82 8 1) P := by
    intro u P v us ue ev k
    have v88 := (ue 88 (by omega) (by omega) (by omega) (by omega) (by omega) (by omega)).1
    have v87 := (ue 87 (by omega) (by omega) (by omega) (by omega) (by omega) (by omega)).1
    have v82 := (ue 82 (by omega) (by omega) (by omega) (by omega) (by omega) (by omega)).1
    refine m_reads (ro := true) (D := D) (d := d) (sh_si (sh_si us)) t1 (fun j hj => ⟨(t4 j hj).1, by rw [ah_i_sn (by omega), ah_i_sn (by omega), v88]; exact (t4 j hj).2.2⟩) (by rw [ah_i_sn (by omega), ah_i_sn (by omega), v82]; exact t3) (n_87 (sh_si (sh_si us))) (fun j hj => by rw [ah_i_sn (by omega), ah_i_sn (by omega), v87]; exact hw j hj) ah_i_ss (fun e p mf e12 => ?_) (fun e p mf e12 => ?_)
    · have : v = true := by rw [← ev, e]
      subst this
      exact k p mf (fun _ => e12) (fun z => absurd z (by decide))
    · have : v = false := by rw [← ev, e]
      subst this
      exact k p mf (fun z => absurd z (by decide)) (fun _ => e12)
  refine c_readT (ro := true) (D := D) (d := d) (sh_si hs) t1 (fun j hj => ⟨(t4 j hj).1, by rw [ah_i_sn (by omega)]; exact (t4 j hj).2.1⟩) rfl rfl (fun er g x fr xg ex e200 tx2 => ⟨some x, rfl, fr.1, ?_⟩) (fun er g fr xg e200 => ⟨none, rfl, fr.1, ?_⟩)
  · -- they are run
    refine ⟨fun z => (nomatch z), fun b8 eb => ?_⟩
    cases eb
    rw [x1] at xg ex
    have gk : ah_k g x = 9 := tx2.1.2.2.1
    refine ⟨gk, ?_⟩
    rintro h18 rfl h22 rfl
    have eh : ∀ a, a < ah_x h → (a < 20 ∨ 25 < a) → a ≠ 0 → eqc h g a := fun a h1 h2 h3 => eqc_trans (eqc_si eqc_rfl h3) (fr.2.2 a (by rw [x1]; exact h1) h2)
    have g0 : ∀ j, ah_i g 0 j = if j = 13 then 0 else ah_i h 0 j := fun j => by
      rw [(fr.2.2 0 (by rw [x1]; omega) (by omega)).1, ah_i_si]
      simp only [true_and]
    rw [e200]
    obtain ⟨u, eu⟩ : ∃ u, u = ah_si (ah_si g 0 14 (-1)) 0 16 (-1) := ⟨_, rfl⟩
    rw [← eu]
    have us : Sh u := by rw [eu]; exact sh_si (sh_si fr.1)
    have ux : ah_x u = ah_x h + 4 := by rw [eu, ah_x_si, ah_x_si]; exact xg
    have ue : ∀ a, a ≠ 0 → eqc g u a := fun a n0 => by rw [eu]; exact eqc_si (eqc_si eqc_rfl n0) n0
    have u0 : ∀ j, ah_i u 0 j = if j = 16 then -1 else if j = 14 then -1 else if j = 13 then 0 else ah_i h 0 j := fun j => by
      rw [eu, ah_i_si, ah_i_si, g0]
      simp only [true_and]
    clear eu
    have uh : ∀ a, a < ah_x h → (a < 20 ∨ 25 < a) → a ≠ 0 → eqc h u a := fun a h1 h2 h3 => eqc_trans (eh a h1 h2 h3) (ue a h3)
    have tu : tx u x true (txR true D d).2.2.2 := tx_fr (fun i hi => ue _ (by omega)) (by omega) tx2
    have cu : c6 A u := c6_of wf tn (uh 4 (by omega) (by omega) (by omega)).1 (uh 6 (by omega) (by omega) (by omega)).1 (uh 7 (by omega) (by omega) (by omega)).1
    obtain ⟨tl1, tl2⟩ := txR_R er
    have i27 := (uh 27 (by omega) (by omega) (by omega)).1
    have wu : wB u := wB_of i27 hwB
    rw [show ah_i u 6 3 = nI (A 247) from cu.2.2.2.2.1]
    obtain ⟨w0, ew0⟩ : ∃ w0 : Nat → Int, w0 = fun j => (ah_i h 27 j).toInt := ⟨_, rfl⟩
    have hw0 : ∀ j, j < 13 → -1000000000 ≤ w0 j ∧ w0 j ≤ 1000000000 := fun j hj => by rw [ew0]; exact hwB j hj
    have tle := tnO_le (D := D) (d := d)
    -- the model, from any heap of the class's end
    have model : ∀ {v : ah_T} {Q : Option Value → ah_T → Prop} {res : Int32 × Nat × (Nat → Nat)}, Sh v → (∀ a, a < ah_x h → (a < 20 ∨ 28 < a) → a ≠ 0 → a ≠ 6 → a ≠ 7 → a ≠ 18 → eqc h v a) → res = rnds w0 (A 247) (txR true D d).2.2.2 0 A →
        (∀ p, mrF D d (ah_si (ah_si v 82 66 (-1)) 82 8 1) p → ah_i p 82 12 = -1 → ∀ q, Sh q → ah_x q = ah_x p → (∀ a, a ≠ 84 → eqc p q a) → (∀ j, ah_i q 84 j = layI 6 (tnO D d) (csO D d) (vsO D d) (ah_i h 84) j) → ∃ s, s = ah_si (ah_si (ah_si q 82 70 0) 82 71 (-1)) 82 67 2400 ∧
          (res.1 = 0 → ∀ h', mRr (A 247) A s h' res.2.2 → Mt mX12_good [.ref 82, .int (nI (res.2.2 247 - A 247))] h' (ab_qi fun v29 h27 => Sh h27 ∧ Q (some (.int v29)) h27)) ∧
          (∀ y, (res.1 = y ∧ (y = -5 ∨ y = -3)) → ∀ h', mRr (A 247) A s h' res.2.2 → Mt mX12_refuses [.ref 82, .int y] (ah_si (ah_si h' 84 247 (nI (A 247))) 82 66 (nI res.2.1)) (ab_qi fun v46 h44 => Sh h44 ∧ Q (some (.int v46)) h44))) → Mt mX12_rounds [.ref 82] v Q := by
      intro v Q res vs ve eres k
      refine T_X12_rounds vs ?_
      rintro h1 rfl h4 rfl
      refine mrd vs ve er (fun p mf e12 _ => ⟨_, rfl, mf.1, ?_⟩)
      (first | refine ⟨fun _ => ?_, fun n_ => absurd (show ¬ bI true = 0 by decide) n_⟩ | refine ⟨fun n_ => absurd (show ¬ bI true = 0 by decide) n_, fun _ => ?_⟩ | refine ⟨fun y_ => absurd y_ (show ¬ bI true = 0 by decide), fun _ => ?_⟩ | refine ⟨fun _ => ?_, fun y_ => absurd y_ (show ¬ bI true = 0 by decide)⟩)
      have mf' := mf
      obtain ⟨p1, p2, p3, p4, p5, p6, p7⟩ := mf'
      have p84 : ∀ j, ah_i p 84 j = ah_i h 84 j := fun j => by rw [(p3 84 (by decide) (by decide) (by decide) (by decide)).1, ah_i_sn (by omega), ah_i_sn (by omega), (ve 84 (by omega) (by omega) (by omega) (by omega) (by omega) (by omega)).1]
      have e84 : ah_i p 84 = ah_i h 84 := funext p84
      rw [cl_247, p84, m60.2.2.1]
      refine m_lays (t := 6) p1 rfl (by omega) (by omega) p6 p7 (fun q q1 q2 q3 q4 => ⟨rfl, q1, ?_⟩)
      rw [e84] at q4
      obtain ⟨s, es, ks1, ks2⟩ := k p mf (e12 rfl) q q1 q2 q3 q4
      rintro h14 rfl h17 rfl h20 rfl
      rw [← es]
      have ss : Sh s := by rw [es]; exact sh_si (sh_si (sh_si q1))
      have se : ∀ a, a ≠ 82 → eqc q s a := fun a n1 => by rw [es]; exact eqc_si (eqc_si (eqc_si eqc_rfl n1) n1) n1
      have s84 : ∀ j, ah_i s 84 j = layI 6 (tnO D d) (csO D d) (vsO D d) (ah_i h 84) j := fun j => by rw [(se 84 (by decide)).1, q4]
      have s67 : ah_i s 82 67 = 2400 := by rw [es, ah_i_ss]
      have s70 : ah_i s 82 70 = 0 := by rw [es, ah_i_sn (by omega), ah_i_sn (by omega), ah_i_ss]
      have s71 : ah_i s 82 71 = -1 := by rw [es, ah_i_sn (by omega), ah_i_ss]
      have sl : ∀ j, j < 253 → ah_i s 84 j = ah_i h 84 j := fun j hj => by rw [s84]; unfold layI; rw [if_neg (by omega), if_neg (by omega), if_neg (by omega)]
      have s259 : ah_i s 84 259 = nI (tnO D d) := by rw [s84]; unfold layI; rw [if_pos rfl]
      have sm : m6 A s := by
        obtain ⟨p1, p2, p3, p4, p5⟩ := m60
        exact ⟨by rw [sl _ (by omega)]; exact p1, p2, by rw [sl _ (by omega)]; exact p3, p4, fun j hj => by rw [sl _ (by omega)]; exact p5 j hj⟩
      rw [s67, show Int32.toNatClampNeg 259 = 259 from rfl, s259, n_2400, nI_add]
      have g2 := csO_ge (D := D) (d := d) (Nat.le_refl _)
      refine m_rounds_loop (cs := csO D d) (vs := vsO D d) (n := tnO D d) (b := 2400) (w0 := w0) (h0 := s) (A0 := A) (b0 := A 247) (Nat.le_refl _) hw0 (by rw [sl _ (by omega)]; exact hT.2) (by omega) g2.1 (by omega) (fun k hk => ?_) (fun k hk => ?_) ks1 ks2 12 0 0 0 [] A s er (Nat.zero_le _) (by omega) ⟨⟨ss, rfl, fun a _ _ _ _ => eqc_rfl, fun _ _ => rfl⟩, fun _ _ _ => rfl, sm, xt_r wf, by rw [s70, Nat.sub_self]; rfl, by rw [s71, if_pos rfl]; rfl⟩ (by rw [s67]; rfl) (by rw [eres, tl1])
      · rw [s84, s84]
        unfold layI
        rw [if_neg (by omega), if_pos (by omega), if_neg (by omega), if_neg (by omega), if_pos (by omega)]
        exact ⟨congrArg (fun k => nI (csO D d k)) (by omega), congrArg (fun k => nI (vsO D d k)) (by omega)⟩
      · rcases Nat.lt_or_ge k (tnO D d) with z | z
        · have := csO_ok (fun j hj => (t4 j hj).1) z
          omega
        · have := csO_ge (D := D) (d := d) z
          rw [this.1, this.2]
          omega
    have m84g : ∀ {p q s h' : ah_T} {A1 : Nat → Nat}, (∀ a, a ≠ 84 → eqc p q a) → (∀ j, ah_i q 84 j = layI 6 (tnO D d) (csO D d) (vsO D d) (ah_i h 84) j) → s = ah_si (ah_si (ah_si q 82 70 0) 82 71 (-1)) 82 67 2400 → mRr (A 247) A s h' A1 → ∀ j, (j < 90 ∨ 162 ≤ j) → j ≠ 247 → (j < 2660 ∨ (3060 ≤ j ∧ j < 5460)) → j ≠ 259 → ah_i h' 84 j = ah_i h 84 j := by
      intro p q s h' A1 q3 q4 es mr j a1 a2 a3 a4
      rw [mr.2.1 j a1 a2, es, ah_i_sn (by omega), ah_i_sn (by omega), ah_i_sn (by omega), q4]
      unfold layI
      rw [if_neg (by omega), if_neg (by omega), if_neg (by omega)]
    refine c_rounds_loop (w0 := w0) (A0 := A) (b0 := A 247) (h0 := u) wf tu tl2 (Nat.le_refl _) (by rw [(uh 14 (by omega) (by omega) (by omega)).1]; exact hT.1) hw0 (fun j hj => by rw [ew0, i27]) (fun z g1 qg cg xA => ?_) (fun y ⟨z, hy⟩ g1 qg cg xA => ?_) (txR true D d).2.2.2.length 0 A u (by omega) (xt_r wf) (qFr_r us) cu rfl
    · -- all of them
      have tg := tx_q qg tu
      refine c_change qg.1 _ ⟨_, rfl, sh_chg qg.1, tg.1.2.2.1, _, rfl, sh_chg qg.1, ?_⟩
      show Mt mX12_rounds [.ref 82] (chg g1) _
      have ge : ∀ a, a < ah_x h → (a < 20 ∨ 28 < a) → a ≠ 0 → a ≠ 6 → a ≠ 7 → eqc h (chg g1) a := fun a h1 h2 h3 h4 h5 => chg_eq (eqc_trans (uh a h1 (by omega) h3) (qg.2.2.1 a h4 h5 (by omega) (by omega) (by omega))) h3
      have gx : ah_x (chg g1) = ah_x h + 4 := by rw [x_chg, qg.2.1, ux]
      have g0' : ∀ j, ah_i (chg g1) 0 j = if j = 17 then 0 else if j = 19 then 1 else if j = 16 then -1 else if j = 14 then -1 else if j = 13 then 0 else ah_i h 0 j := fun j => by rw [chg_0, (qg.2.2.1 0 (by decide) (by decide) (by decide) (by decide) (by decide)).1, u0]
      have gc : c6 (rnds w0 (A 247) (txR true D d).2.2.2 0 A).2.2 (chg g1) := by
        obtain ⟨c1, c2, c3, c4, c5, c7, c8⟩ := cg
        exact ⟨by rw [chg_i (by decide)]; exact c1, c2, by rw [chg_i (by decide)]; exact c3, by rw [chg_i (by decide)]; exact c4, by rw [chg_i (by decide)]; exact c5, c7, fun j hj => by rw [chg_i (by decide)]; exact c8 j hj⟩
      have gw : wB (chg g1) := wB_of (fun j => chg_i (by decide)) (qg.2.2.2.2 wu)
      have gs : Sh (chg g1) := sh_chg qg.1
      revert ge gx g0' gc gw gs
      generalize chg g1 = v
      intro ge gx g0' gc gw gs
      refine model gs (fun a h1 h2 h3 h4 h5 _ => ge a h1 h2 h3 h4 h5) rfl (fun p mf e12 q q1 q2 q3 q4 => ⟨_, rfl, fun _ h' mr => ?_, fun y hy => ?_⟩)
      · have mr' := mr
        obtain ⟨⟨r1, r2, r3, r4⟩, r5, r6, r7, r8, r9⟩ := mr'
        obtain ⟨p1, p2, p3, p4, p5, p6, p7⟩ := mf
        refine m_good r1 _ ⟨_, rfl, sh_god r1, _, rfl, rfl, ?_⟩
        show Inv TXm CC CM n (god h')
        have e82 : ∀ j, (j < 20 ∨ j = 29 ∨ j = 49 ∨ (60 ≤ j ∧ j ≠ 67 ∧ j ≠ 68 ∧ j ≠ 69 ∧ j ≠ 70 ∧ j ≠ 71 ∧ j ≠ 72 ∧ j ≠ 73 ∧ j ≠ 74)) → ah_i h' 82 j = ah_i p 82 j := fun j hj => by rw [r4 j hj, ah_i_sn (by omega), ah_i_sn (by omega), ah_i_sn (by omega), (q3 82 (by decide)).1]
        have e82' : ∀ j, (j < 8 ∨ j = 29 ∨ j = 49 ∨ (60 ≤ j ∧ j ≠ 66 ∧ j ≠ 67 ∧ j ≠ 68 ∧ j ≠ 69 ∧ j ≠ 70 ∧ j ≠ 71 ∧ j ≠ 72 ∧ j ≠ 73 ∧ j ≠ 74)) → ah_i h' 82 j = ah_i v 82 j := fun j hj => by rw [e82 j (by omega), p4 j (by omega) (by omega) (by omega) (by omega) (by omega) (by omega), ah_i_sn (by omega), ah_i_sn (by omega)]
        have e84 := (ge 84 (by omega) (by omega) (by omega) (by omega) (by omega)).1
        refine rounds_ok (d := d) (D := D) (b0 := A 247) (u := v) (g := v) hCC hCM hCw hs wf tn im sc dr cc cm ge (by omega) g0' gc r7 gw (sh_god r1) (by rw [x_god, r2, ah_x_si, ah_x_si, ah_x_si, q2, p2, ah_x_si, ah_x_si]) (fun a n1 n2 n3 n4 n5 n6 n7 => god_eq (eqc_trans (eqc_trans (eqc_trans (eqc_si (eqc_si eqc_rfl n1) n1) (p3 a n1 n3 n4 n5)) (q3 a n2)) (eqc_trans (eqc_si (eqc_si (eqc_si eqc_rfl n1) n1) n1) (r3 a n1 n2 n6 n7))) n1) (fun j a1 a2 a3 a4 => by rw [god_i (by decide), m84g q3 q4 rfl mr j a1 a2 a3 a4, e84]) ?_ (fun j hj => ?_) ?_ ?_ ?_ ?_ ?_
        · obtain ⟨p1, p2, p3, p4, p5⟩ := r6
          exact ⟨by rw [god_i (by decide)]; exact p1, p2, by rw [god_i (by decide)]; exact p3, p4, fun j hj => by rw [god_i (by decide)]; exact p5 j hj⟩
        · rw [god_82, if_neg (by omega), if_neg (by omega), e82' j (by omega)]
        · rw [god_82, if_neg (by decide), if_pos rfl]
        · rw [god_82, if_pos rfl, e82' 1 (by omega)]
        · rw [god_82, if_neg (by decide), if_neg (by decide), e82 11 (by omega), p5]
        · rw [god_82, if_neg (by decide), if_neg (by decide), e82 12 (by omega), e12]
        · rw [god_82, if_neg (by decide), if_neg (by decide), e82 66 (by omega), p4 66 (by omega) (by omega) (by omega) (by omega) (by omega) (by omega), ah_i_sn (by omega), ah_i_ss]
      · obtain ⟨hy1, hy2⟩ := hy
        rw [z] at hy1
        rcases hy2 with w | w <;> rw [w] at hy1 <;> exact absurd hy1 (by decide)
    · -- one can't be
      have hwhy : ∃ p q, isWhy y p q := by
        rcases hy with w | w
        · exact ⟨_, _, by rw [w]; exact why5⟩
        · exact ⟨_, _, by rw [w]; exact why3⟩
      obtain ⟨pp, qq, hwhy⟩ := hwhy
      have tg := tx_q qg tu
      obtain ⟨v, ev⟩ : ∃ v, v = ah_si (ah_si g1 0 16 (nI (rnds w0 (A 247) (txR true D d).2.2.2 0 A).2.1)) 6 3 (nI (A 247)) := ⟨_, rfl⟩
      rw [← ev]
      have gs : Sh v := by rw [ev]; exact sh_si (sh_si qg.1)
      have vk : ah_k v x = 9 := by rw [ev]; exact tg.1.2.2.1
      have ge : ∀ a, a < ah_x h → (a < 20 ∨ 28 < a) → a ≠ 0 → a ≠ 6 → a ≠ 7 → eqc h v a := fun a h1 h2 h3 h4 h5 => by rw [ev]; exact eqc_si (eqc_si (eqc_trans (uh a h1 (by omega) h3) (qg.2.2.1 a h4 h5 (by omega) (by omega) (by omega))) h3) h4
      have gx : ah_x v = ah_x h + 4 := by rw [ev, ah_x_si, ah_x_si, qg.2.1, ux]
      have g0' : ∀ j, ah_i v 0 j = if j = 16 then nI (rnds w0 (A 247) (txR true D d).2.2.2 0 A).2.1 else if j = 14 then -1 else if j = 13 then 0 else ah_i h 0 j := fun j => by
        rw [ev, ah_i_sn (by omega), ah_i_si, (qg.2.2.1 0 (by decide) (by decide) (by decide) (by decide) (by decide)).1, u0]
        by_cases z16 : j = 16
        · rw [if_pos ⟨rfl, z16⟩, if_pos z16]
        · rw [if_neg (fun y => z16 y.2), if_neg z16, if_neg z16]
      have gc : c6 A v := by
        obtain ⟨c1, c2, c3, c4, c5, c7, c8⟩ := cg
        refine ⟨?_, h10, ?_, ?_, by rw [ev, ah_i_ss], h24, fun j hj => ?_⟩
        · rw [ev, ah_i_sn (by omega), ah_i_sn (by omega), c1, xA.2.2.2 246 (by omega) (by omega)]
        · rw [ev, ah_i_sn (by omega), ah_i_sn (by omega)]; exact c3
        · rw [ev, ah_i_sn (by omega), ah_i_sn (by omega)]; exact c4
        · rw [ev, ah_i_sn (by omega), ah_i_sn (by omega)]
          have := c8 j (by have := xA.2.1; omega)
          rw [xA.2.2.1 j hj] at this
          exact this
      have gw : wB v := wB_of (fun j => by rw [ev, ah_i_sn (by omega), ah_i_sn (by omega)]) (qg.2.2.2.2 wu)
      clear ev
      refine c_refuse gs hwhy ⟨_, rfl, sh_cRf gs, vk, _, rfl, sh_cRf gs, ?_⟩
      refine model (sh_cRf gs) (fun a h1 h2 h3 h4 h5 h18 => eqc_trans (ge a h1 h2 h3 h4 h5) (eqc_cRf h3 h18)) rfl (fun p mf e12 q q1 q2 q3 q4 => ⟨_, rfl, fun z0 => ?_, fun y2 ⟨e2, _⟩ h' mr => ?_⟩)
      · rw [z] at z0
        rcases hy with w | w <;> rw [w] at z0 <;> exact absurd z0 (by decide)
      · have : y2 = y := by rw [← e2, z]
        subst this
        have mr' := mr
        obtain ⟨⟨r1, r2, r3, r4⟩, r5, r6, r7, r8, r9⟩ := mr'
        obtain ⟨p1, p2, p3, p4, p5, p6, p7⟩ := mf
        have e82 : ∀ j, (j < 20 ∨ j = 29 ∨ j = 49 ∨ (60 ≤ j ∧ j ≠ 67 ∧ j ≠ 68 ∧ j ≠ 69 ∧ j ≠ 70 ∧ j ≠ 71 ∧ j ≠ 72 ∧ j ≠ 73 ∧ j ≠ 74)) → ah_i h' 82 j = ah_i p 82 j := fun j hj => by rw [r4 j hj, ah_i_sn (by omega), ah_i_sn (by omega), ah_i_sn (by omega), (q3 82 (by decide)).1]
        have e82' : ∀ j, (j < 8 ∨ j = 29 ∨ j = 49 ∨ (60 ≤ j ∧ j ≠ 66 ∧ j ≠ 67 ∧ j ≠ 68 ∧ j ≠ 69 ∧ j ≠ 70 ∧ j ≠ 71 ∧ j ≠ 72 ∧ j ≠ 73 ∧ j ≠ 74)) → ah_i h' 82 j = ah_i v 82 j := fun j hj => by rw [e82 j (by omega), p4 j (by omega) (by omega) (by omega) (by omega) (by omega) (by omega), ah_i_sn (by omega), ah_i_sn (by omega), (eqc_cRf (by decide) (by decide)).1]
        have e84 := (ge 84 (by omega) (by omega) (by omega) (by omega) (by omega)).1
        have xr : ah_x (cRf v y2 pp) = ah_x v := by unfold cRf; rw [ah_x_si, ah_x_si]
        refine m_refuses (sh_si (sh_si r1)) hwhy ⟨_, rfl, sh_si (sh_si r1), _, rfl, rfl, ?_⟩
        refine rounds_no (d := d) (D := D) (c := v) hCC hCM hwhy hs wf tn im sc dr cc cm ge (by omega) g0' gc gw (sh_si (sh_si r1)) (by rw [ah_x_si, ah_x_si, r2, ah_x_si, ah_x_si, ah_x_si, q2, p2, ah_x_si, ah_x_si, xr]) (fun a n1 n2 n3 n4 n5 n6 n7 => eqc_si (eqc_si (eqc_trans (eqc_trans (eqc_trans (eqc_si (eqc_si eqc_rfl n1) n1) (p3 a n1 n3 n4 n5)) (q3 a n2)) (eqc_trans (eqc_si (eqc_si (eqc_si eqc_rfl n1) n1) n1) (r3 a n1 n2 n6 n7))) n2) n1) (fun j a1 a2 a3 a4 => by rw [ah_i_sn (by omega), ah_i_sn (by omega), m84g q3 q4 rfl mr j a1 a2 a3 a4, e84]) ?_ (fun j hj => ?_) ?_ ?_ ah_i_ss
        · obtain ⟨p1, p2, p3, p4, p5⟩ := r6
          refine ⟨?_, h10, by rw [ah_i_sn (by omega), ah_i_ss], h24, fun j hj => ?_⟩
          · rw [ah_i_sn (by omega), ah_i_sn (by omega), p1, r7.2.2.2 246 (by omega) (by omega)]
          · rw [ah_i_sn (by omega), ah_i_sn (by omega), p5 j (by have := r7.2.1; omega), r7.2.2.1 j hj]
        · rw [ah_i_sn (by omega), ah_i_sn (by omega), e82' j (by omega)]
        · rw [ah_i_sn (by omega), ah_i_sn (by omega), e82 11 (by omega), p5]
        · rw [ah_i_sn (by omega), ah_i_sn (by omega), e82 12 (by omega), e12]
  · -- no text
    refine ⟨fun _ => ?_, fun b8 eb => (nomatch eb)⟩
    rw [x1] at xg
    rintro h9 rfl h12 rfl
    have eh : ∀ a, a < ah_x h → (a < 20 ∨ 25 < a) → a ≠ 0 → eqc h g a := fun a h1 h2 h3 => eqc_trans (eqc_si eqc_rfl h3) (fr.2.2 a (by rw [x1]; exact h1) h2)
    have g0 : ∀ j, ah_i g 0 j = if j = 13 then 0 else ah_i h 0 j := fun j => by
      rw [(fr.2.2 0 (by rw [x1]; omega) (by omega)).1, ah_i_si]
      simp only [true_and]
    rw [e200]
    obtain ⟨c, ec⟩ : ∃ c, c = ah_si (ah_si g 0 14 (nI (plO D d (txR true D d).2.1))) 0 16 (-1) := ⟨_, rfl⟩
    rw [← ec]
    have cs : Sh c := by rw [ec]; exact sh_si (sh_si fr.1)
    have c0 : ∀ j, ah_i c 0 j = if j = 16 then -1 else if j = 14 then nI (plO D d (txR true D d).2.1) else if j = 13 then 0 else ah_i h 0 j := fun j => by
      rw [ec, ah_i_si, ah_i_si, g0]
      simp only [true_and]
    have ce : ∀ a, a < ah_x h → (a < 20 ∨ 25 < a) → a ≠ 0 → eqc h c a := fun a h1 h2 h3 => by rw [ec]; exact eqc_si (eqc_si (eh a h1 h2 h3) h3) h3
    have cx : ah_x c = ah_x h := by rw [ec, ah_x_si, ah_x_si, xg]
    clear ec
    have ce' : ∀ a, a < ah_x h → (a < 20 ∨ 28 < a) → a ≠ 0 → a ≠ 6 → a ≠ 7 → eqc h c a := fun a h1 h2 h3 _ _ => ce a h1 (by omega) h3
    have cc6 : c6 A c := c6_of wf tn (ce 4 (by omega) (by omega) (by omega)).1 (ce 6 (by omega) (by omega) (by omega)).1 (ce 7 (by omega) (by omega) (by omega)).1
    have cw : wB c := wB_of (ce 27 (by omega) (by omega) (by omega)).1 hwB
    have xr : ah_x (cRf c (-6) 4) = ah_x c := by unfold cRf; rw [ah_x_si, ah_x_si]
    refine c_refuse cs why6 ⟨_, rfl, sh_cRf cs, _, rfl, sh_cRf cs, ?_⟩
    refine T_X12_rounds (sh_cRf cs) ?_
    rintro h1 rfl h4 rfl
    refine mrd (sh_cRf cs) (fun a h1 h2 h3 h4 h5 h18 => eqc_trans (ce a h1 (by omega) h3) (eqc_cRf h3 h18)) er (fun p mf _ e12 => ⟨_, rfl, mf.1, ?_⟩)
    (first | refine ⟨fun _ => ?_, fun n_ => absurd (show bI false = 0 by rfl) n_⟩ | refine ⟨fun n_ => absurd (show bI false = 0 by rfl) n_, fun _ => ?_⟩ | refine ⟨fun y_ => absurd y_ (show bI false = 0 by rfl), fun _ => ?_⟩ | refine ⟨fun _ => ?_, fun y_ => absurd y_ (show bI false = 0 by rfl)⟩)
    obtain ⟨p1, p2, p3, p4, p5, p6, p7⟩ := mf
    refine m_refuses p1 why6 ⟨_, rfl, p1, _, rfl, rfl, ?_⟩
    have e84 := (ce 84 (by omega) (by omega) (by omega)).1
    have p84 : ∀ j, ah_i p 84 j = ah_i c 84 j := fun j => by rw [(p3 84 (by decide) (by decide) (by decide) (by decide)).1, ah_i_sn (by omega), ah_i_sn (by omega), (eqc_cRf (by decide) (by decide)).1]
    refine rounds_no (d := d) (D := D) (c := c) hCC hCM why6 hs wf tn im sc dr cc cm ce' (by omega) c0 cc6 cw p1 (by rw [p2, ah_x_si, ah_x_si, xr]) (fun a n1 n2 n3 n4 n5 n6 n7 => eqc_trans (eqc_si (eqc_si eqc_rfl n1) n1) (p3 a n1 n3 n4 n5)) (fun j a1 a2 a3 a4 => p84 j) (m6_of wf tn (fun j => by rw [p84, e84])) (fun j hj => ?_) p5 (e12 rfl) ?_
    · rw [p4 j (by omega) (by omega) (by omega) (by omega) (by omega) (by omega), ah_i_sn (by omega), ah_i_sn (by omega), (eqc_cRf (by decide) (by decide)).1]
    · rw [p4 66 (by omega) (by omega) (by omega) (by omega) (by omega) (by omega), ah_i_sn (by omega), ah_i_ss]
end RR
