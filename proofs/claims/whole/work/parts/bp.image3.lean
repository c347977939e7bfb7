/-! ===== image, back on both sides ===== -/
section IB
variable {TX : ah_T → Nat → (Nat → Nat) → (Nat → Nat) → Nat → Prop} {CC : (Nat → Nat) → ah_T → Prop} {CM : Nat → (Nat → Nat) → ah_T → Prop} {A : Nat → Nat} {h g e : ah_T} {n k b c o : Nat}
theorem sh_eqc (hs : Sh h) (q : ∀ c, c < 123 → eqc h g c) (hx : ah_x h ≤ ah_x g) : Sh g := by
  refine ⟨fun a ha => ?_, fun p hp => ?_, Nat.le_trans hs.2.2 hx⟩
  · rw [(q a ha).2.2.2.1, (q a ha).2.2.2.2]; exact hs.1 a ha
  · have h2 : p.1 < 123 := by
      have : sh_R.all (fun q => q.1 < 123) = true := by decide +kernel
      simpa using List.all_eq_true.mp this p hp
    rw [(q p.1 h2).2.2.1]; exact hs.2.1 p hp
theorem Tn_fr2 (w : WF A) (hTX : TXp TX) (h1 : ∀ i, i < 15 → eqc h g (b + i)) (h2 : ∀ j, j < 5860 → ah_i g c (o + j) = ah_i h c (o + j)) (h5 : ∀ x, 123 ≤ x → ah_k h x = 9 ∧ ah_k h (x + 1) = 14 ∧ ah_k h (x + 2) = 14 ∧ ah_k h (x + 3) = 14 → x + 4 ≤ ah_x h → ∀ i, i < 4 → eqc h g (x + i)) (hx : ah_x h ≤ ah_x g) (q : Tn TX A h b c o) : Tn TX A g b c o := by
  obtain ⟨q1, q2, q3, q4, q5, q6, q7, q8⟩ := q
  have z : ∀ j, j < 5860 → ah_i g c (o + j) = ah_i h c (o + j) ∧ A j = A j := fun j hj => ⟨h2 j hj, rfl⟩
  exact ⟨cp3_fr (h1 1 (by omega)).1 (h1 2 (by omega)).1 (fun j _ => z j (by omega)) q1, cp3_fr (h1 3 (by omega)).1 (h1 4 (by omega)).1 (fun j _ => z j (by omega)) q2, cp3_fr (h1 5 (by omega)).1 (h1 6 (by omega)).1 (fun j _ => z j (by omega)) q3, cpL_fr w.2.2.2.1 (h1 7 (by omega)).1 (h1 8 (by omega)).1 (fun j _ => z j (by omega)) q4, cp3_fr (h1 9 (by omega)).1 (h1 10 (by omega)).1 (fun j _ => z j (by omega)) q5, cp3_fr (h1 11 (by omega)).1 (h1 12 (by omega)).1 (fun j _ => z j (by omega)) q6, cpT_fr (h1 13 (by omega)).1 (fun j _ => z j (by omega)) q7, cpW_fr w.2.2.2.2.2.2.2 hTX ((h1 0 (by omega)).1 8) ((h1 0 (by omega)).1 9) (h1 14 (by omega)).2.2.1 (fun j _ hj => z j hj) h5 hx q8⟩
theorem m_img {Q : Option Value → ah_T → Prop} (hs : Sh e) (hk : k < 2) (hq : ∀ u, Sh u → ah_x u = ah_x e → (∀ c, c ≠ 85 → c ≠ 86 → eqc e u c) → (∀ j, ah_i u 85 j = if 5860 * k ≤ j ∧ j < 5860 * k + 5860 then ah_i e 84 (j - 5860 * k) else ah_i e 85 j) → (∀ j, ah_i u 86 j = if j = k then 1 else ah_i e 86 j) → (∀ j, ah_r u 86 j = ah_r e 86 j) → Mt mX12_good [.ref 82, .int 0] u (ab_qi fun v12 h10 => Sh h10 ∧ Q (some (.int v12)) h10)) : Wp mX12_image Q 0 0 17 [some (.ref 82), some (.int (nI k)), some (.int (nI 0))] [] e := by
  have lp : ∀ (q i : Nat) (u : ah_T), i + q = 5860 → Sh u → ah_x u = ah_x e → (∀ c, c ≠ 85 → eqc e u c) → (∀ j, ah_i u 85 j = if 5860 * k ≤ j ∧ j < 5860 * k + i then ah_i e 84 (j - 5860 * k) else ah_i e 85 j) → Wp mX12_image Q 0 0 17 [some (.ref 82), some (.int (nI k)), some (.int (nI i))] [] u := by
    intro q
    induction q with
    | zero =>
      intro i u hi su xu eu e85
      have e9 : i = 5860 := by omega
      subst e9
      refine T_X12_image_17 su _ _ ?_
      (first | refine ⟨fun _ => ?_, fun n_ => absurd (show 5860 ≤ nI 5860 from nI_le (a := 5860) (by omega) (by omega)) n_⟩ | refine ⟨fun n_ => absurd (show 5860 ≤ nI 5860 from nI_le (a := 5860) (by omega) (by omega)) n_, fun _ => ?_⟩ | refine ⟨fun y_ => absurd y_ (show 5860 ≤ nI 5860 from nI_le (a := 5860) (by omega) (by omega)), fun _ => ?_⟩ | refine ⟨fun _ => ?_, fun y_ => absurd y_ (show 5860 ≤ nI 5860 from nI_le (a := 5860) (by omega) (by omega))⟩)
      rw [sh_n su 86 2 (by decide) (by decide) rfl, nI_clamp (show k < 2 ^ 31 by omega)]
      refine ⟨(vp_nI (by omega)).mpr hk, ?_⟩
      rintro h7 rfl
      refine hq _ (sh_si su) (by rw [ah_x_si]; exact xu) (fun c n1 n2 => eqc_si (eu c n1) n2) (fun j => by rw [ah_i_sn (by omega)]; exact e85 j) (fun j => ?_) (fun j => (eu 86 (by decide)).2.2.1 j)
      by_cases z : j = k
      · rw [z, ah_i_ss, if_pos rfl]; rfl
      · rw [ah_i_sn (fun y => z y.2), if_neg z]; exact (eu 86 (by decide)).1 j
    | succ q ih =>
      intro i u hi su xu eu e85
      refine T_X12_image_17 su _ _ ?_
      (first | refine ⟨fun _ => ?_, fun n_ => absurd (show ¬ 5860 ≤ nI i from nI_ge (b := 5860) (by omega) (by omega)) n_⟩ | refine ⟨fun n_ => absurd (show ¬ 5860 ≤ nI i from nI_ge (b := 5860) (by omega) (by omega)) n_, fun _ => ?_⟩ | refine ⟨fun y_ => absurd y_ (show ¬ 5860 ≤ nI i from nI_ge (b := 5860) (by omega) (by omega)), fun _ => ?_⟩ | refine ⟨fun _ => ?_, fun y_ => absurd y_ (show ¬ 5860 ≤ nI i from nI_ge (b := 5860) (by omega) (by omega))⟩)
      rw [n_5860, nI_mul, nI_add, nI_1, nI_clamp (show i < 2 ^ 31 by omega), nI_clamp (show 5860 * k + i < 2 ^ 31 by omega), n84 su, sh_n su 85 11720 (by decide) (by decide) rfl]
      refine ⟨(vp_nI (by omega)).mpr (by omega), (vp_nI (by omega)).mpr (by omega), ?_⟩
      rintro h15 rfl
      refine ih (i + 1) _ (by omega) (sh_si su) (by rw [ah_x_si]; exact xu) (fun c n1 => eqc_si (eu c n1) n1) (fun j => ?_)
      by_cases z : j = 5860 * k + i
      · rw [z, ah_i_ss, if_pos (by omega), (eu 84 (by decide)).1, show 5860 * k + i - 5860 * k = i by omega]
      · rw [ah_i_sn (fun y => z y.2), e85]
        by_cases z2 : 5860 * k ≤ j ∧ j < 5860 * k + i
        · rw [if_pos z2, if_pos (by omega)]
        · rw [if_neg z2, if_neg (by omega)]
  exact lp 5860 0 e (by omega) hs rfl (fun _ _ => eqc_rfl) (fun j => by rw [if_neg (by omega)])
theorem m_bck {Q : Option Value → ah_T → Prop} (hs : Sh e) (hk : k < 2) (hq : ∀ u, Sh u → ah_x u = ah_x e → (∀ c, c ≠ 84 → eqc e u c) → (∀ j, j < 5860 → ah_i u 84 j = ah_i e 85 (5860 * k + j)) → Mt mX12_good [.ref 82, .int 0] u (ab_qi fun v12 h10 => Sh h10 ∧ Q (some (.int v12)) h10)) : Wp mX12_back Q 0 0 33 [some (.ref 82), some (.int (nI k)), some (.int (nI 0))] [] e := by
  have lp : ∀ (q i : Nat) (u : ah_T), i + q = 5860 → Sh u → ah_x u = ah_x e → (∀ c, c ≠ 84 → eqc e u c) → (∀ j, j < i → ah_i u 84 j = ah_i e 85 (5860 * k + j)) → Wp mX12_back Q 0 0 33 [some (.ref 82), some (.int (nI k)), some (.int (nI i))] [] u := by
    intro q
    induction q with
    | zero =>
      intro i u hi su xu eu e84
      have e9 : i = 5860 := by omega
      subst e9
      refine T_X12_back_33 su _ _ ?_
      (first | refine ⟨fun _ => ?_, fun n_ => absurd (show 5860 ≤ nI 5860 from nI_le (a := 5860) (by omega) (by omega)) n_⟩ | refine ⟨fun n_ => absurd (show 5860 ≤ nI 5860 from nI_le (a := 5860) (by omega) (by omega)) n_, fun _ => ?_⟩ | refine ⟨fun y_ => absurd y_ (show 5860 ≤ nI 5860 from nI_le (a := 5860) (by omega) (by omega)), fun _ => ?_⟩ | refine ⟨fun _ => ?_, fun y_ => absurd y_ (show 5860 ≤ nI 5860 from nI_le (a := 5860) (by omega) (by omega))⟩)
      exact hq u su xu eu e84
    | succ q ih =>
      intro i u hi su xu eu e84
      refine T_X12_back_33 su _ _ ?_
      (first | refine ⟨fun _ => ?_, fun n_ => absurd (show ¬ 5860 ≤ nI i from nI_ge (b := 5860) (by omega) (by omega)) n_⟩ | refine ⟨fun n_ => absurd (show ¬ 5860 ≤ nI i from nI_ge (b := 5860) (by omega) (by omega)) n_, fun _ => ?_⟩ | refine ⟨fun y_ => absurd y_ (show ¬ 5860 ≤ nI i from nI_ge (b := 5860) (by omega) (by omega)), fun _ => ?_⟩ | refine ⟨fun _ => ?_, fun y_ => absurd y_ (show ¬ 5860 ≤ nI i from nI_ge (b := 5860) (by omega) (by omega))⟩)
      rw [n_5860, nI_mul, nI_add, nI_1, nI_clamp (show i < 2 ^ 31 by omega), nI_clamp (show 5860 * k + i < 2 ^ 31 by omega), n84 su, sh_n su 85 11720 (by decide) (by decide) rfl]
      refine ⟨(vp_nI (by omega)).mpr (by omega), (vp_nI (by omega)).mpr (by omega), ?_⟩
      rintro h15 rfl
      refine ih (i + 1) _ (by omega) (sh_si su) (by rw [ah_x_si]; exact xu) (fun c n1 => eqc_si (eu c n1) n1) (fun j hj => ?_)
      by_cases z : j = i
      · rw [z, ah_i_ss]; exact (eu 85 (by decide)).1 _
      · rw [ah_i_sn (fun y => z y.2)]; exact e84 j (by omega)
  exact lp 5860 0 e (by omega) hs rfl (fun _ _ => eqc_rfl) (fun j hj => absurd hj (by omega))
theorem rel_image (hTX : TXp TX) (hCC : CCp CC) (hCM : CMp CM) (x1 : Int32) : lw_RC (Inv TX CC CM (n + 1)) (Inv TX CC CM n) mX11_image mX12_image [.int x1] := by
  intro h hI
  have hI' := hI
  obtain ⟨hs, A, B0, B1, d, D, wf, tn, im, sc, tp, dr, cc, cm⟩ := hI'
  have x123 := hs.2.2
  have n16 : ah_n h 16 = 2 := sh_n hs 16 2 (by decide) (by decide) rfl
  -- what follows where the block stands
  have go : ∀ (k b : Nat) (v : ah_T), k < 2 → Sh v → ah_x h ≤ ah_x v → (∀ c, c < 123 → c ≠ 16 → eqc h v c) → (∀ c, 123 ≤ c → c < ah_x h → eqc h v c) → (∀ j, ah_r v 16 j = if j = k then some b else ah_r h 16 j) → 123 ≤ b → b + 15 ≤ ah_x v → tB v b → tW v b → lkB v b → (∀ j b', j < 2 → j ≠ k → ah_r h 16 j = some b' → b' ≠ b) → ¬ f_X11_isIn (nI k) 2 = 0 → Mt mX10_become [.ref b, .ref 1] v (ab_qv fun h21 => Sh h21 ∧ ah_k h21 b = 10 ∧ (Mt mX11_grant [.ref 0, .int 0] h21 (ab_qi fun v27 h25 => Sh h25 ∧ ah_k h25 b = 10 ∧ rQ (Inv TX CC CM n) mX12_image [.ref 82, .int (nI k)] (some (.int v27)) h25))) := by
    intro k b v hk sv xv e1 e2 er hb hbx tb tw lb dis y
    have tnv : Tn TX A v 1 84 0 := Tn_fr wf hTX (fun i hi => e1 _ (by omega) (by omega)) (e1 84 (by omega) (by omega)) (fun x h1 _ h2 i hi => e2 _ (by omega) (by omega)) xv tn
    have lk1 : lkB v 1 := by
      obtain ⟨_, _, _, _, _, l⟩ := tnv.2.2.2.2.2.2.2
      exact l
    refine c_become sv (.inr hb) (.inl (by omega)) tb (tB_own sv) (fun t x ex => (lk1 t x ex).2.2.1) (fun g bE => ?_)
    obtain ⟨sg, xg, eo, kn, rr, _, _⟩ := bE.1
    have k10 : ah_k g b = 10 := by rw [(kn b).1]; exact (tb.1 0 (by omega)).1
    refine ⟨rfl, sg, k10, c_grant sg _ ⟨_, rfl, sh_si sg, by rw [ah_k_si]; exact k10, 0, rfl, sh_si sg, T_X12_image (sh_si sg) _ ?_⟩⟩
    simp only [q_two]
    (first | refine ⟨fun _ => ?_, fun n_ => absurd (y) n_⟩ | refine ⟨fun n_ => absurd (y) n_, fun _ => ?_⟩ | refine ⟨fun y_ => absurd y_ (y), fun _ => ?_⟩ | refine ⟨fun _ => ?_, fun y_ => absurd y_ (y)⟩)
    refine m_img (sh_si sg) hk (fun u su xu eu e85 e86 r86 => ?_)
    refine rl_go su rfl ?_
    show Inv TX CC CM n (god u)
    have xf : ah_x (god u) = ah_x v := by rw [x_god, xu, ah_x_si, xg]
    have xle : ah_x h ≤ ah_x (god u) := by omega
    have V : ∀ c, c ≠ 0 → c ≠ 82 → c ≠ 85 → c ≠ 86 → eqc g (god u) c := fun c n0 n1 n2 n3 => god_eq (eqc_trans (eqc_si eqc_rfl n0) (eu c n2 n3)) n1
    have F : ∀ c, c < 123 → c ≠ 0 → c ≠ 16 → c ≠ 82 → c ≠ 85 → c ≠ 86 → eqc h (god u) c := fun c h1 n0 n4 n1 n2 n3 => eqc_trans (e1 c h1 n4) (eqc_trans (eo c (.inl (by omega))) (V c n0 n1 n2 n3))
    have F2 : ∀ c, 123 ≤ c → c < ah_x h → (c < b ∨ b + 15 ≤ c) → eqc h (god u) c := fun c h1 h2 h3 => eqc_trans (e2 c h1 h2) (eqc_trans (eo c h3) (V c (by omega) (by omega) (by omega) (by omega)))
    have f0 : ∀ j, ah_i (god u) 0 j = if j = 17 then 0 else ah_i h 0 j := fun j => by
      rw [god_i (by decide), (eu 0 (by decide) (by decide)).1, ah_i_si]
      by_cases z : j = 17
      · rw [if_pos ⟨rfl, z⟩, if_pos z]
      · rw [if_neg (fun w => z w.2), if_neg z, (eo 0 (.inl (by omega))).1, (e1 0 (by omega) (by omega)).1]
    have u82 : ∀ j, ah_i u 82 j = ah_i h 82 j := fun j => by rw [(eu 82 (by decide) (by decide)).1, ah_i_sn (by omega), (eo 82 (.inl (by omega))).1, (e1 82 (by omega) (by omega)).1]
    have f82 : ∀ j, ah_i (god u) 82 j = if j = 1 then ah_i h 82 1 + 1 else if j = 0 then 0 else ah_i h 82 j := fun j => by rw [god_82, u82, u82]
    have r16 : ∀ j, ah_r (god u) 16 j = if j = k then some b else ah_r h 16 j := fun j => by rw [(V 16 (by decide) (by decide) (by decide) (by decide)).2.2.1, (eo 16 (.inl (by omega))).2.2.1]; exact er j
    have i86 : ∀ j, ah_i (god u) 86 j = if j = k then 1 else ah_i h 86 j := fun j => by
      rw [god_i (by decide), e86, ah_i_sn (by omega), (eo 86 (.inl (by omega))).1, (e1 86 (by omega) (by omega)).1]
    have i85 : ∀ j, ah_i (god u) 85 j = if 5860 * k ≤ j ∧ j < 5860 * k + 5860 then ah_i v 84 (j - 5860 * k) else ah_i h 85 j := fun j => by
      rw [god_i (by decide), e85, ah_i_sn (by omega), ah_i_sn (by omega), (eo 85 (.inl (by omega))).1, (e1 85 (by omega) (by omega)).1, (eo 84 (.inl (by omega))).1]
    have tx : ∀ x, 123 ≤ x → ah_k h x = 9 ∧ ah_k h (x + 1) = 14 ∧ ah_k h (x + 2) = 14 ∧ ah_k h (x + 3) = 14 → x + 4 ≤ ah_x h → ∀ i, i < 4 → eqc h (god u) (x + i) := by
      intro x h1 q h2 i hi
      have z := bl_tx (h := v) (x := x) tb ⟨(e2 x h1 (by omega)).2.2.2.1.trans q.1, (e2 (x + 1) (by omega) (by omega)).2.2.2.1.trans q.2.1, (e2 (x + 2) (by omega) (by omega)).2.2.2.1.trans q.2.2.1, (e2 (x + 3) (by omega) (by omega)).2.2.2.1.trans q.2.2.2⟩
      exact F2 _ (by omega) (by omega) (by omega)
    have one : ∀ (j : Nat) (B : Nat → Nat), j < 2 → Im1 TX B h j → Im1 TX (if k = j then A else B) (god u) j := by
      intro j B hj q
      by_cases z : k = j
      · subst z
        rw [if_pos rfl]
        have eb : ∀ i, i < 15 → eqc g (god u) (b + i) := fun i hi => V _ (by omega) (by omega) (by omega) (by omega)
        refine .inr ⟨by rw [i86, if_pos rfl], b, by rw [r16, if_pos rfl], ⟨hb, by rw [xf]; exact hbx, tB_fr eb (tB_kr kn (fun i j hi => rr _ _ (by omega)) tb)⟩, ?_, wf⟩
        refine Tn_cp hTX wf bE eb tw lb (fun j hj => ?_) (fun x h1 q h2 i hi => ?_) (Nat.le_of_eq xf.symm) tnv
        · rw [i85, if_pos (by omega), show 5860 * k + j - 5860 * k = 0 + j by omega]
        · have z := bl_tx (x := x) tb q
          exact eqc_trans (eo _ (by omega)) (V _ (by omega) (by omega) (by omega) (by omega))
      · rw [if_neg z]
        rcases q with ⟨q1, q2⟩ | ⟨q1, b', q2, q3, q4, q5⟩
        · exact .inl ⟨by rw [i86, if_neg (Ne.symm z)]; exact q1, by rw [r16, if_neg (Ne.symm z)]; exact q2⟩
        · have nb := dis j b' hj (Ne.symm z) q2
          have hb1 := q3.1
          have hb2 := q3.2.1
          have tb' : tB v b' := tB_fr (fun i hi => e2 _ (by omega) (by omega)) q3.2.2
          have ap := bl_bl tb' tb nb
          have e' : ∀ i, i < 15 → eqc h (god u) (b' + i) := fun i hi => F2 _ (by omega) (by omega) (by omega)
          refine .inr ⟨by rw [i86, if_neg (Ne.symm z)]; exact q1, b', by rw [r16, if_neg (Ne.symm z)]; exact q2, iR_fr e' xle q3, Tn_fr2 q5 hTX e' (fun i hi => ?_) tx xle q4, q5⟩
          rw [i85, if_neg (by omega)]
    obtain ⟨s1, s2, s3, s4, s5, s6, s7, s8, s9⟩ := sc
    obtain ⟨t1, t2, t3, t4⟩ := tp
    have E18 := (F 18 (by omega) (by omega) (by omega) (by omega) (by omega) (by omega)).1
    have E83 := (F 83 (by omega) (by omega) (by omega) (by omega) (by omega) (by omega)).1
    refine ⟨sh_god su, A, (if k = 0 then A else B0), (if k = 1 then A else B1), d, D, wf, Tn_fr wf hTX (fun i hi => F _ (by omega) (by omega) (by omega) (by omega) (by omega) (by omega)) (F 84 (by omega) (by omega) (by omega) (by omega) (by omega) (by omega)) tx xle tn, ⟨one 0 B0 (by omega) im.1, one 1 B1 (by omega) im.2.1, fun b' h1 h2 => ?_⟩, ⟨?_, by rw [E18, E83]; exact s2, by rw [E18, E83]; exact s3, by rw [E18, E83]; exact s4, by rw [E18, E83]; exact s5, by rw [E18, E83]; exact s6, ?_, ?_, ?_⟩, ⟨t1, ?_, ?_, fun j hj => ?_⟩, ?_, hCC.1 _ _ _ cc ⟨fun a h1 h2 => F a (by omega) (by omega) (by omega) (by omega) (by omega) (by omega), tx, xle, fun x h1 h2 h3 h4 => ?_, wB_of (F 27 (by omega) (by omega) (by omega) (by omega) (by omega) (by omega)).1⟩ ?_ ?_, hCM.2.2 _ _ _ _ _ cm ⟨fun a ha => F a (by omega) (by omega) (by omega) (by omega) (by omega) (by omega), fun j hj => ?_⟩ ?_⟩
    · rw [r16] at h1 h2
      rcases (show k = 0 ∨ k = 1 by omega) with e | e
      · rw [if_pos e.symm] at h1
        rw [if_neg (by omega)] at h2
        cases h1
        exact dis 1 b (by omega) (by omega) h2 rfl
      · rw [if_neg (by omega)] at h1
        rw [if_pos e.symm] at h2
        cases h2
        exact dis 0 b (by omega) (by omega) h1 rfl
    · rw [f0, if_pos rfl, f82, if_neg (by decide), if_pos rfl]
    · rw [f0, if_neg (by decide), f82, if_neg (by decide), if_neg (by decide)]; exact s7
    · rw [f0, if_neg (by decide), f82, if_neg (by decide), if_neg (by decide)]; exact s8
    · rw [f0, if_neg (by decide), f82, if_neg (by decide), if_neg (by decide)]; exact s9
    · rw [f0, if_neg (by decide)]; exact t2
    · rw [f82, if_neg (by decide), if_neg (by decide)]; exact t3
    · rw [(F 17 (by omega) (by omega) (by omega) (by omega) (by omega) (by omega)).1, (F 88 (by omega) (by omega) (by omega) (by omega) (by omega) (by omega)).1]; exact t4 j hj
    · unfold Dr
      rw [f82, if_neg (by decide), if_neg (by decide), (F 19 (by omega) (by omega) (by omega) (by omega) (by omega) (by omega)).1]
      rcases dr with w | w
      · exact .inl w
      · refine .inr ⟨w.1, fun j hj => ?_⟩
        rw [(F 19 (by omega) (by omega) (by omega) (by omega) (by omega) (by omega)).1, (F 122 (by omega) (by omega) (by omega) (by omega) (by omega) (by omega)).1]
        exact w.2 j hj
    · have z := bl_co (h := v) (x := x) tb ((e2 x h1 h2).2.2.2.1.trans h3) ((e2 x h1 h2).2.2.2.2.trans h4)
      exact F2 x h1 h2 z
    · rw [f0, if_neg (by decide)]
    · rw [f0, if_neg (by decide)]
    · rw [f82, if_neg (by omega), if_neg (by omega)]
    · rw [f82, if_pos rfl]
  refine T_X11_image hs x1 ⟨fun y => ?_, fun y => ?_⟩
  rotate_left
  · refine rl_rf hs why1 (T_X12_image (sh_cRf hs) _ ?_)
    simp only [q_two]
    (first | refine ⟨fun _ => ?_, fun n_ => absurd (y) n_⟩ | refine ⟨fun n_ => absurd (y) n_, fun _ => ?_⟩ | refine ⟨fun y_ => absurd y_ (y), fun _ => ?_⟩ | refine ⟨fun _ => ?_, fun y_ => absurd y_ (y)⟩)
    exact rl_mf hTX hCC hCM hI why1
  obtain ⟨k, hk, rfl⟩ := q_isn (n := 2) (by decide) y
  have imk : ∃ B, Im1 TX B h k := by
    rcases (show k = 0 ∨ k = 1 by omega) with rfl | rfl
    · exact ⟨B0, im.1⟩
    · exact ⟨B1, im.2.1⟩
  obtain ⟨B, imk⟩ := imk
  have oth : ∀ j b', j < 2 → ah_r h 16 j = some b' → b' + 15 ≤ ah_x h := by
    intro j b' hj e
    have q : ∀ B, Im1 TX B h j → b' + 15 ≤ ah_x h := by
      rintro B (⟨q1, q2⟩ | ⟨q1, b2, q2, q3, _⟩)
      · rw [q2] at e; cases e
      · rw [q2] at e; cases e; exact q3.2.1
    rcases (show j = 0 ∨ j = 1 by omega) with rfl | rfl
    · exact q B0 im.1
    · exact q B1 im.2.1
  rw [nI_clamp (show k < 2 ^ 31 by omega), n16]
  have vk : vp_in (nI k) 2 := (vp_nI (by omega)).mpr hk
  refine ⟨vk, fun e => ?_, fun b e => ?_⟩
  · rintro w6 rfl h8 rfl
    refine c_newTown (t := ah_x h) (by rw [ah_x_nw]) (by rw [ah_k_nw, if_pos rfl]) (fun g xg eg tb tw rn => ?_)
    rw [ah_x_nw] at xg
    have E : ∀ c, c < ah_x h → eqc h g c := fun c hc => eqc_trans (eqc_nw eqc_rfl (by omega)) (eg c hc)
    have sg : Sh g := sh_eqc hs (fun c hc => E c (by omega)) (by omega)
    refine ⟨rfl, sg, (tb.1 0 (by omega)).1, by rw [sh_n sg 16 2 (by decide) (by decide) rfl]; exact vk, ?_⟩
    rintro h17 rfl
    refine go k (ah_x h) _ hk (sh_lk (.inr (.inl rfl)) sg) (by rw [ah_x_sr]; omega) (fun c h1 h2 => eqc_sr (E c (by omega)) h2) (fun c h1 h2 => eqc_sr (E c h2) (by omega)) (fun j => ?_) x123 (by rw [ah_x_sr]; omega) (tB_fr (fun i hi => eqc_sr eqc_rfl (by omega)) tb) (fun i hi => tw i hi) (fun t x ex => ?_) (fun j b' hj _ e2 => ?_) y
    · rw [ah_r_sr]
      by_cases z : j = k
      · rw [if_pos ⟨rfl, z⟩, if_pos z]
      · rw [if_neg (fun w => z w.2), if_neg z]
        exact (E 16 (by omega)).2.2.1 j
    · rw [ah_r_sr, if_neg (by omega), rn] at ex
      cases ex
    · have := oth j b' hj e2
      omega
  · rcases imk with ⟨q1, q2⟩ | ⟨q1, b', q2, q3, q4, q5⟩
    · rw [q2] at e; cases e
    have eb : b' = b := Option.some.inj (q2.symm.trans e)
    subst eb
    have lb : lkB h b' := by
      obtain ⟨_, _, _, _, _, l⟩ := q4.2.2.2.2.2.2.2
      exact l
    refine ⟨(q3.2.2.1 0 (by omega)).1, go k b' h hk hs (Nat.le_refl _) (fun _ _ _ => eqc_rfl) (fun _ _ _ => eqc_rfl) (fun j => ?_) q3.1 q3.2.1 q3.2.2 (tW_of q4) lb (fun j b2 hj nj e2 e3 => ?_) y⟩
    · by_cases z : j = k
      · rw [if_pos z, z]; exact q2
      · rw [if_neg z]
    · subst e3
      rcases (show k = 0 ∨ k = 1 by omega) with ek | ek
      · have ej : j = 1 := by omega
        rw [ek] at q2
        rw [ej] at e2
        exact im.2.2 b2 q2 e2
      · have ej : j = 0 := by omega
        rw [ek] at q2
        rw [ej] at e2
        exact im.2.2 b2 e2 q2
theorem rel_back (hTX : TXp TX) (hCC : CCp CC) (hCM : CMp CM) (x1 : Int32) : lw_RC (Inv TX CC CM (n + 1)) (Inv TX CC CM n) mX11_back mX12_back [.int x1] := by
  intro h hI
  have hI' := hI
  obtain ⟨hs, A, B0, B1, d, D, wf, tn, im, sc, tp, dr, cc, cm⟩ := hI'
  have n16 : ah_n h 16 = 2 := sh_n hs 16 2 (by decide) (by decide) rfl
  refine T_X11_back hs x1 ⟨fun y => ?_, fun y => ?_⟩
  rotate_left
  · refine rl_rf hs why1 (T_X12_back (sh_cRf hs) _ ?_)
    simp only [q_two]
    (first | refine ⟨fun _ => ?_, fun n_ => absurd (y) n_⟩ | refine ⟨fun n_ => absurd (y) n_, fun _ => ?_⟩ | refine ⟨fun y_ => absurd y_ (y), fun _ => ?_⟩ | refine ⟨fun _ => ?_, fun y_ => absurd y_ (y)⟩)
    exact rl_mf hTX hCC hCM hI why1
  obtain ⟨k, hk, rfl⟩ := q_isn (n := 2) (by decide) y
  have imk : ∃ B, Im1 TX B h k := by
    rcases (show k = 0 ∨ k = 1 by omega) with rfl | rfl
    · exact ⟨B0, im.1⟩
    · exact ⟨B1, im.2.1⟩
  obtain ⟨B, imk⟩ := imk
  have vk : vp_in (nI k) 2 := (vp_nI (by omega)).mpr hk
  rw [nI_clamp (show k < 2 ^ 31 by omega), n16]
  rcases imk with ⟨q1, q2⟩ | ⟨q1, b, q2, q3, q4, q5⟩
  · refine ⟨vk, fun _ => ?_, fun b e => ?_⟩
    · refine rl_rf hs why2 (T_X12_back (sh_cRf hs) _ ?_)
      simp only [q_two]
      (first | refine ⟨fun _ => ?_, fun n_ => absurd (y) n_⟩ | refine ⟨fun n_ => absurd (y) n_, fun _ => ?_⟩ | refine ⟨fun y_ => absurd y_ (y), fun _ => ?_⟩ | refine ⟨fun _ => ?_, fun y_ => absurd y_ (y)⟩)
      have e86 : ah_i (cRf h (-2) 1) 86 k = 0 := by rw [(eqc_cRf (h := h) (x := -2) (p := 1) (a := 86) (by decide) (by decide)).1]; exact q1
      rw [nI_clamp (show k < 2 ^ 31 by omega), sh_n (sh_cRf hs) 86 2 (by decide) (by decide) rfl, e86]
      refine ⟨vk, fun z => absurd rfl z, fun _ => rl_mf hTX hCC hCM hI why2⟩
    · rw [q2] at e; cases e
  refine ⟨vk, fun e => (by rw [q2] at e; cases e), fun b' e => ?_⟩
  have eb : b = b' := Option.some.inj (q2.symm.trans e)
  subst eb
  have hb := q3.1
  have k10 : ah_k h b = 10 := (q3.2.2.1 0 (by omega)).1
  have lb : lkB h b := by
    obtain ⟨_, _, _, _, _, l⟩ := q4.2.2.2.2.2.2.2
    exact l
  have la : lkB h 1 := by
    obtain ⟨_, _, _, _, _, l⟩ := tn.2.2.2.2.2.2.2
    exact l
  refine ⟨k10, c_become hs (.inl rfl) (.inr (by omega)) (tB_own hs) q3.2.2 (fun t x ex => (lb t x ex).2.2.1) (fun g bE => ?_)⟩
  obtain ⟨sg, xg, eo, kn, rr, _, _⟩ := bE.1
  have k10g : ah_k g b = 10 := by rw [(kn b).1]; exact k10
  refine ⟨rfl, sg, k10g, ?_⟩
  rintro h13 rfl
  have se : Sh (ah_si (ah_si (ah_si g 0 18 1) 0 19 1) 0 17 0) := sh_si (sh_si (sh_si sg))
  refine c_change (sh_si sg) _ ⟨_, rfl, se, by rw [ah_k_si, ah_k_si, ah_k_si]; exact k10g, 0, rfl, se, T_X12_back se _ ?_⟩
  obtain ⟨e, ee⟩ : ∃ e, e = ah_si (ah_si (ah_si g 0 18 1) 0 19 1) 0 17 0 := ⟨_, rfl⟩
  rw [← ee]
  rw [← ee] at se
  have eg : ∀ c, c ≠ 0 → eqc g e c := fun c n0 => by rw [ee]; exact eqc_si (eqc_si (eqc_si eqc_rfl n0) n0) n0
  have xe : ah_x e = ah_x h := by rw [ee, ah_x_si, ah_x_si, ah_x_si, xg]
  have e0 : ∀ j, ah_i e 0 j = if j = 17 then 0 else if j = 19 then 1 else if j = 18 then 1 else ah_i h 0 j := fun j => by
    rw [ee, ah_i_si, ah_i_si, ah_i_si, (eo 0 (.inl (by omega))).1]
    simp only [true_and]
  simp only [q_two]
  (first | refine ⟨fun _ => ?_, fun n_ => absurd (y) n_⟩ | refine ⟨fun n_ => absurd (y) n_, fun _ => ?_⟩ | refine ⟨fun y_ => absurd y_ (y), fun _ => ?_⟩ | refine ⟨fun _ => ?_, fun y_ => absurd y_ (y)⟩)
  have i86 : ah_i e 86 k = 1 := by rw [(eg 86 (by decide)).1, (eo 86 (.inr (by omega))).1]; exact q1
  rw [nI_clamp (show k < 2 ^ 31 by omega), sh_n se 86 2 (by decide) (by decide) rfl, i86]
  refine ⟨vk, fun _ => ?_, fun z => absurd z (by decide)⟩
  refine m_bck se hk (fun u su xu eu e84 => ?_)
  refine rl_go su rfl ?_
  show Inv TX CC CM n (god u)
  have V : ∀ c, c ≠ 0 → c ≠ 82 → c ≠ 84 → eqc g (god u) c := fun c n0 n1 n2 => god_eq (eqc_trans (eg c n0) (eu c n2)) n1
  have F : ∀ c, 15 < c → c ≠ 82 → c ≠ 84 → eqc h (god u) c := fun c h1 n1 n2 => eqc_trans (eo c (.inr (by omega))) (V c (by omega) n1 n2)
  have xf : ah_x (god u) = ah_x h := by rw [x_god, xu, xe]
  have f0 : ∀ j, ah_i (god u) 0 j = ah_i e 0 j := fun j => by rw [god_i (by decide), (eu 0 (by decide)).1]
  have u82 : ∀ j, ah_i u 82 j = ah_i h 82 j := fun j => by rw [(eu 82 (by decide)).1, (eg 82 (by decide)).1, (eo 82 (.inr (by omega))).1]
  have f82 : ∀ j, ah_i (god u) 82 j = if j = 1 then ah_i h 82 1 + 1 else if j = 0 then 0 else ah_i h 82 j := fun j => by rw [god_82, u82, u82]
  refine inv_told hTX hCC hCM (sh_god su) im sc tp dr cc cm q5 ?_ ⟨xf, fun a h1 h2 h3 => F a h1 h2 h3, fun j n1 n2 n3 => by rw [f0, e0, if_neg n1, if_neg n3, if_neg n2], fun j n1 n2 => by rw [f82, if_neg n2, if_neg n1], by rw [f0, e0, if_neg (by decide), if_pos rfl], by rw [f82, if_pos rfl], by rw [f0, e0, if_pos rfl, f82, if_neg (by decide), if_pos rfl]⟩ (.inl (by rw [f0, e0, if_neg (by decide), if_neg (by decide), if_pos rfl]))
  refine Tn_cp hTX q5 bE (fun i hi => V _ (by omega) (by omega) (by omega)) (tW_of tn) la (fun j hj => ?_) (fun x h1 _ h2 i hi => F _ (by omega) (by omega) (by omega)) (Nat.le_of_eq xf.symm) q4
  rw [Nat.zero_add, god_i (by decide), e84 j hj, (eg 85 (by decide)).1, (eo 85 (.inr (by omega))).1]
end IB
