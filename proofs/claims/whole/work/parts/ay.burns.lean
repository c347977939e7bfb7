/-! ===== burns, bright on both sides ===== -/
section BU
variable {KX : ah_T → Prop} {RX WX SX : (Nat → Nat) → ah_T → Prop} {A A' : Nat → Nat} {h h' h2 g : ah_T} {g0 n : Nat}
/-- the class looks, and relates its night -/
theorem lr {K : ah_T → Prop} (hs : Sh h) (X : XP KX RX WX) (hS : SXp SX) (p : preQ KX RX WX SX (n + 1) A h) (hk : ∀ h6 g', Sh h6 → preQ KX RX WX SX n A h6 → lkO KX RX WX g' A h6 → ah_i h6 54 9 = 1 → chR A h6 → chL A h6 → (∀ g, loF h6 g → lkO KX RX WX g' A g → preQ KX RX WX SX n A g) → K h6) : Mt mX11_look [.ref 0] h (ab_qv fun h3 => Sh h3 ∧ (Mt mX0_relate [.ref 54] h3 (ab_qv fun h6 => Sh h6 ∧ K h6))) := by
  have p' := p
  obtain ⟨⟨B0, B1, d, D, wf, tn, _⟩, cc, cm⟩ := p'
  obtain ⟨G, hG, hG2⟩ := gen_of p
  refine c_look hs X wf tn cc hG hG2 (fun h1 g' f1 hg' lk => ⟨rfl, f1.1, ?_⟩)
  refine c_relate f1.1 lk.1 lk.2.1 (fun h6 f6 c6 i9 r6 l6 => ⟨rfl, f6.1, ?_⟩)
  have e0 := (f6.2.2.1 0 (by omega)).1
  have lk6 := lkO_ch X f6 c6 (.inr ⟨i9, r6, l6⟩) ⟨e0 18, e0 19⟩ lk
  have f16 := loF_t f1 (loF_ch f6)
  exact hk h6 g' f6.1 (preQ_lk hS p hG f16 hg' lk6) lk6 i9 r6 l6 (fun g fg lg => preQ_lk hS p hG (loF_t f16 fg) hg' lg)
theorem lk1 {K : ah_T → Prop} (hs : Sh h) (X : XP KX RX WX) (hS : SXp SX) (p : preQ KX RX WX SX (n + 1) A h) (hk : ∀ h6 g', Sh h6 → preQ KX RX WX SX n A h6 → lkO KX RX WX g' A h6 → (∀ g, loF h6 g → lkO KX RX WX g' A g → preQ KX RX WX SX n A g) → K h6) : Mt mX11_look [.ref 0] h (ab_qv fun h3 => Sh h3 ∧ K h3) := by
  have p' := p
  obtain ⟨⟨B0, B1, d, D, wf, tn, _⟩, cc, cm⟩ := p'
  obtain ⟨G, hG, hG2⟩ := gen_of p
  refine c_look hs X wf tn cc hG hG2 (fun h1 g' f1 hg' lk => ⟨rfl, f1.1, ?_⟩)
  exact hk h1 g' f1.1 (preQ_lk hS p hG f1 hg' lk) lk (fun g fg lg => preQ_lk hS p hG (loF_t f1 fg) hg' lg)
/-- the model lays its night -/
theorem md_night {K : ah_T → Prop} (hs : Sh h) (X : XP KX RX WX) (hW : hWp KX RX) (hS : SXp SX) (p : preQ KX RX WX SX n A h) (hk : ∀ h8, Sh h8 → lyF h h8 → mBa A (nd0 A) h8 → mNt A (nd0 A) 120 h8 → (∀ h9, knF h8 h9 → mBa A (nd0 A) h9 → Inv TXm (CCg KX RX WX) (CMg SX) n h9) → K h8) : Mt mX12_laysNight [.ref 82] h (ab_qv fun h8 => Sh h8 ∧ K h8) := by
  have mq := mQs_p p
  have c9 := p.2.2.2.2.2.2.1
  refine m_laysNight hs mq c9 (fun h8 f8 b8 nt e49 => ⟨rfl, f8.1, hk h8 f8.1 f8 b8 nt (fun h9 f9 b9 => ?_)⟩)
  have a49 : ah_i h9 82 49 = ah_i h8 82 49 := f9.2.2.2 49 (by decide) (by decide) (by decide) (by decide) (by decide)
  refine inv_md X hW hS p (mdF_t (mdF_ly f8) (mdF_k f9)) b9.2.1 (fun _ => mNt_fr (fun a ha => (f9.2.2.1 a (by omega) (by omega) (by omega) (by omega) (by omega)).1) nt) (.inr (.inl ?_))
  rw [a49, e49, f8.2.2.2 1 (by omega)]
theorem bt_1 (i : Nat) (hi : i < 32) : bt 1 i = decide (i = 0) := (by decide +kernel : ∀ i, i < 32 → bt 1 i = decide (i = 0)) i hi
theorem b_val (x : Int32) {k : Nat} (hk : k < 32) : ((x >>> (nI k &&& 31)) &&& 1) = bI (bt x k) := by
  apply b_ext
  intro i hi
  rw [b_and, bt_1 i hi]
  by_cases z : i = 0
  · subst z
    rw [b_sshr k hk x (by omega), if_pos (by omega), decide_eq_true rfl, Bool.and_true, Nat.add_zero]
    cases bt x k <;> rfl
  · rw [decide_eq_false z, Bool.and_false]
    cases bt x k
    · exact (b_0 i).symm
    · show false = bt 1 i
      rw [bt_1 i hi, decide_eq_false z]
theorem c_countBit {Q : Option Value → ah_T → Prop} (hs : Sh h) {a k t : Nat} {x1 x2 : Int32} (e1 : x1 = nI k) (e2 : x2 = nI t) (ha : a = 55 ∨ a = 56) (hk : k < 32) (ht : t < 120) (hq : Q (some (.int (nI (cb (fun m => bt (ah_i h a m) k) (t + 1))))) h) : Mt mX11_countBit [.ref a, .int x1, .int x2] h Q := by
  subst e1 e2
  have ka : ah_k h a = 14 := by rcases ha with rfl | rfl; exact sh_k hs 55 14 (by decide) rfl; exact sh_k hs 56 14 (by decide) rfl
  have na : ah_n h a = 120 := by rcases ha with rfl | rfl; exact sh_n hs 55 120 (by decide) (by decide) rfl; exact sh_n hs 56 120 (by decide) (by decide) rfl
  have lp : ∀ (q m : Nat), m + q = t + 1 → Wp mX11_countBit Q 0 0 5 [some (.ref a), some (.int (nI k)), some (.int (nI t)), some (.int (nI (cb (fun m => bt (ah_i h a m) k) m))), some (.int (nI m))] [] h := by
    intro q
    induction q with
    | zero =>
      intro m hm
      have e9 : m = t + 1 := by omega
      subst e9
      refine T_X11_countBit_5 hs a _ _ _ _ ka ?_
      (first | refine ⟨fun _ => ?_, fun n_ => absurd (show nI t < nI (t + 1) from nI_lt (by omega) (by omega)) n_⟩ | refine ⟨fun n_ => absurd (show nI t < nI (t + 1) from nI_lt (by omega) (by omega)) n_, fun _ => ?_⟩ | refine ⟨fun y_ => absurd y_ (show nI t < nI (t + 1) from nI_lt (by omega) (by omega)), fun _ => ?_⟩ | refine ⟨fun _ => ?_, fun y_ => absurd y_ (show nI t < nI (t + 1) from nI_lt (by omega) (by omega))⟩)
      exact hq
    | succ q ih =>
      intro m hm
      refine T_X11_countBit_5 hs a _ _ _ _ ka ?_
      (first | refine ⟨fun _ => ?_, fun n_ => absurd (show ¬ nI t < nI m by rw [nI_ltI (by omega) (by omega)]; omega) n_⟩ | refine ⟨fun n_ => absurd (show ¬ nI t < nI m by rw [nI_ltI (by omega) (by omega)]; omega) n_, fun _ => ?_⟩ | refine ⟨fun y_ => absurd y_ (show ¬ nI t < nI m by rw [nI_ltI (by omega) (by omega)]; omega), fun _ => ?_⟩ | refine ⟨fun _ => ?_, fun y_ => absurd y_ (show ¬ nI t < nI m by rw [nI_ltI (by omega) (by omega)]; omega)⟩)
      rw [na]
      (first | refine ⟨fun _ => ?_, fun n_ => absurd (show ¬ Int32.ofNat 120 ≤ nI m from nI_ge (b := 120) (by omega) (by omega)) n_⟩ | refine ⟨fun n_ => absurd (show ¬ Int32.ofNat 120 ≤ nI m from nI_ge (b := 120) (by omega) (by omega)) n_, fun _ => ?_⟩ | refine ⟨fun y_ => absurd y_ (show ¬ Int32.ofNat 120 ≤ nI m from nI_ge (b := 120) (by omega) (by omega)), fun _ => ?_⟩ | refine ⟨fun _ => ?_, fun y_ => absurd y_ (show ¬ Int32.ofNat 120 ≤ nI m from nI_ge (b := 120) (by omega) (by omega))⟩)
      rw [nI_clamp (show m < 2 ^ 31 by omega), b_val _ hk, nI_1]
      refine ⟨(vp_nI (by omega)).mpr (by omega), ?_⟩
      have e : nI (cb (fun m => bt (ah_i h a m) k) m) + bI (bt (ah_i h a m) k) = nI (cb (fun m => bt (ah_i h a m) k) (m + 1)) := by
        show _ = nI (cb _ m + (if bt (ah_i h a m) k = true then 1 else 0))
        rw [← nI_add]
        cases bt (ah_i h a m) k <;> rfl
      rw [e]
      exact ih (m + 1) (by omega)
  exact T_X11_countBit hs a _ _ ka (lp (t + 1) 0 (by omega))
theorem chR_l (r : chR A h) {m l : Nat} (hm : m < 120) (hl : l < A 246) (h10 : A 246 ≤ 10) : bt (ah_i h 55 m) l = litM A (nd0 A) m l ∧ bt (ah_i h 56 m) l = outM A (nd0 A) m l := by
  obtain ⟨r1, r2, _⟩ := r m hm
  have a := r1 l (by omega)
  have b := r2 l (by omega)
  constructor
  · cases e : litM A (nd0 A) m l
    · cases e2 : bt (ah_i h 55 m) l
      · rfl
      · rw [(a.mp e2).2] at e; exact absurd e (by decide)
    · exact a.mpr ⟨hl, e⟩
  · cases e : outM A (nd0 A) m l
    · cases e2 : bt (ah_i h 56 m) l
      · rfl
      · rw [(b.mp e2).2] at e; exact absurd e (by decide)
    · exact b.mpr ⟨hl, e⟩
theorem rel_bright (X : XP KX RX WX) (hW : hWp KX RX) (hS : SXp SX) (a : Int32) : lw_RC (Inv TXm (CCg KX RX WX) (CMg SX) (n + 1)) (Inv TXm (CCg KX RX WX) (CMg SX) n) mX11_bright mX12_bright [.int a] := by
  intro h hI
  obtain ⟨hs, A, p⟩ := pre_of hI
  refine T_X11_bright hs a ?_
  by_cases c1 : f_X11_isIn a 120 = 0
  · (first | refine ⟨fun _ => ?_, fun n_ => absurd (c1) n_⟩ | refine ⟨fun n_ => absurd (c1) n_, fun _ => ?_⟩ | refine ⟨fun y_ => absurd y_ (c1), fun _ => ?_⟩ | refine ⟨fun _ => ?_, fun y_ => absurd y_ (c1)⟩)
    refine ⟨_, rfl, hs, T_X12_bright hs a ?_⟩
    simp only [q_minute]
    (first | refine ⟨fun _ => ?_, fun n_ => absurd (c1) n_⟩ | refine ⟨fun n_ => absurd (c1) n_, fun _ => ?_⟩ | refine ⟨fun y_ => absurd y_ (c1), fun _ => ?_⟩ | refine ⟨fun _ => ?_, fun y_ => absurd y_ (c1)⟩)
    exact ⟨_, rfl, rfl, inv_less hs p⟩
  (first | refine ⟨fun _ => ?_, fun n_ => absurd (c1) n_⟩ | refine ⟨fun n_ => absurd (c1) n_, fun _ => ?_⟩ | refine ⟨fun y_ => absurd y_ (c1), fun _ => ?_⟩ | refine ⟨fun _ => ?_, fun y_ => absurd y_ (c1)⟩)
  obtain ⟨m, hm, rfl⟩ := q_isn (n := 120) (by decide) c1
  refine lr hs X hS p (fun h6 g' s6 p6 lk6 i9 r6 l6 pq => ?_)
  refine c_lightAt s6 lk6.1 i9 r6 l6 rfl hm (fun h7 v f7 c7 i7 r7 l7 bv => ⟨_, rfl, f7.1, ?_⟩)
  have e0 := (f7.2.2.1 0 (by omega)).1
  have p7 := pq h7 (loF_ch f7) (lkO_ch X f7 c7 (.inr ⟨i7, r7, l7⟩) ⟨e0 18, e0 19⟩ lk6)
  refine ⟨_, rfl, f7.1, T_X12_bright f7.1 _ ?_⟩
  simp only [q_minute]
  (first | refine ⟨fun _ => ?_, fun n_ => absurd (c1) n_⟩ | refine ⟨fun n_ => absurd (c1) n_, fun _ => ?_⟩ | refine ⟨fun y_ => absurd y_ (c1), fun _ => ?_⟩ | refine ⟨fun _ => ?_, fun y_ => absurd y_ (c1)⟩)
  refine md_night f7.1 X hW hS p7 (fun h8 s8 f8 b8 nt fin => ?_)
  refine m_brightIn s8 b8 rfl hm (M := 120) hm nt (fun h9 w f9 b9 bw => ⟨_, rfl, f9.1, _, rfl, brV_u bv bw, fin h9 f9 b9⟩)
theorem rel_burns (X : XP KX RX WX) (hW : hWp KX RX) (hS : SXp SX) (a b c : Int32) : lw_RC (Inv TXm (CCg KX RX WX) (CMg SX) (n + 1)) (Inv TXm (CCg KX RX WX) (CMg SX) n) mX11_burns mX12_burns [.int a, .int b, .int c] := by
  intro h hI
  obtain ⟨hs, A, p⟩ := pre_of hI
  have p' := p
  obtain ⟨⟨B0, B1, d, D, wf, tn, _⟩, cc, cm⟩ := p'
  have tw := cTw_of wf tn
  have h10 := wf.2.1.1
  have m246 := (mQs_p p).2.2.1.2.2.1
  have q4 : ∀ x, f_X12_lies x 0 3 = f_X11_isIn x 4 := fun x => by unfold f_X12_lies f_X11_isIn; grind
  have no : (f_X12_isLamp h a = 0 ∨ f_X11_isIn b 120 = 0 ∨ f_X11_isIn c 4 = 0) → Mt mX12_burns [.ref 82, .int a, .int b, .int c] h (ab_qi fun w h2 => -1 = w ∧ Inv TXm (CCg KX RX WX) (CMg SX) n h2) := by
    intro o
    refine T_X12_burns hs _ _ _ ?_
    simp only [q_minute, q4]
    have done : (ab_qi fun w h2 => -1 = w ∧ Inv TXm (CCg KX RX WX) (CMg SX) n h2) (some (.int (-1))) h := ⟨_, rfl, rfl, inv_less hs p⟩
    by_cases z1 : f_X12_isLamp h a = 0
    · (first | refine ⟨fun _ => ?_, fun n_ => absurd (z1) n_⟩ | refine ⟨fun n_ => absurd (z1) n_, fun _ => ?_⟩ | refine ⟨fun y_ => absurd y_ (z1), fun _ => ?_⟩ | refine ⟨fun _ => ?_, fun y_ => absurd y_ (z1)⟩)
      exact done
    (first | refine ⟨fun _ => ?_, fun n_ => absurd (z1) n_⟩ | refine ⟨fun n_ => absurd (z1) n_, fun _ => ?_⟩ | refine ⟨fun y_ => absurd y_ (z1), fun _ => ?_⟩ | refine ⟨fun _ => ?_, fun y_ => absurd y_ (z1)⟩)
    by_cases z2 : f_X11_isIn b 120 = 0
    · (first | refine ⟨fun _ => ?_, fun n_ => absurd (z2) n_⟩ | refine ⟨fun n_ => absurd (z2) n_, fun _ => ?_⟩ | refine ⟨fun y_ => absurd y_ (z2), fun _ => ?_⟩ | refine ⟨fun _ => ?_, fun y_ => absurd y_ (z2)⟩)
      exact done
    (first | refine ⟨fun _ => ?_, fun n_ => absurd (z2) n_⟩ | refine ⟨fun n_ => absurd (z2) n_, fun _ => ?_⟩ | refine ⟨fun y_ => absurd y_ (z2), fun _ => ?_⟩ | refine ⟨fun _ => ?_, fun y_ => absurd y_ (z2)⟩)
    have z3 : f_X11_isIn c 4 = 0 := (o.resolve_left z1).resolve_left z2
    (first | refine ⟨fun _ => ?_, fun n_ => absurd (z3) n_⟩ | refine ⟨fun n_ => absurd (z3) n_, fun _ => ?_⟩ | refine ⟨fun y_ => absurd y_ (z3), fun _ => ?_⟩ | refine ⟨fun _ => ?_, fun y_ => absurd y_ (z3)⟩)
    exact done
  refine T_X11_burns hs a b c (c_has3 hs (by omega) tw.1.2.1 (by omega) (fun l hl el => ⟨_, rfl, hs, ?_⟩) (fun c0 => ⟨_, rfl, hs, ?_⟩))
  rotate_left
  · (first | refine ⟨fun _ => ?_, fun n_ => absurd (show (0 : Int32) = 0 from rfl) n_⟩ | refine ⟨fun n_ => absurd (show (0 : Int32) = 0 from rfl) n_, fun _ => ?_⟩ | refine ⟨fun y_ => absurd y_ (show (0 : Int32) = 0 from rfl), fun _ => ?_⟩ | refine ⟨fun _ => ?_, fun y_ => absurd y_ (show (0 : Int32) = 0 from rfl)⟩)
    exact ⟨_, rfl, hs, no (.inl (isLamp_f m246 h10 c0))⟩
  subst el
  (first | refine ⟨fun _ => ?_, fun n_ => absurd (show ¬ (1 : Int32) = 0 by decide) n_⟩ | refine ⟨fun n_ => absurd (show ¬ (1 : Int32) = 0 by decide) n_, fun _ => ?_⟩ | refine ⟨fun y_ => absurd y_ (show ¬ (1 : Int32) = 0 by decide), fun _ => ?_⟩ | refine ⟨fun _ => ?_, fun y_ => absurd y_ (show ¬ (1 : Int32) = 0 by decide)⟩)
  by_cases c2 : f_X11_isIn b 120 = 0
  · (first | refine ⟨fun _ => ?_, fun n_ => absurd (c2) n_⟩ | refine ⟨fun n_ => absurd (c2) n_, fun _ => ?_⟩ | refine ⟨fun y_ => absurd y_ (c2), fun _ => ?_⟩ | refine ⟨fun _ => ?_, fun y_ => absurd y_ (c2)⟩)
    exact ⟨_, rfl, hs, no (.inr (.inl c2))⟩
  (first | refine ⟨fun _ => ?_, fun n_ => absurd (c2) n_⟩ | refine ⟨fun n_ => absurd (c2) n_, fun _ => ?_⟩ | refine ⟨fun y_ => absurd y_ (c2), fun _ => ?_⟩ | refine ⟨fun _ => ?_, fun y_ => absurd y_ (c2)⟩)
  by_cases c3 : f_X11_isIn c 4 = 0
  · (first | refine ⟨fun _ => ?_, fun n_ => absurd (c3) n_⟩ | refine ⟨fun n_ => absurd (c3) n_, fun _ => ?_⟩ | refine ⟨fun y_ => absurd y_ (c3), fun _ => ?_⟩ | refine ⟨fun _ => ?_, fun y_ => absurd y_ (c3)⟩)
    exact ⟨_, rfl, hs, no (.inr (.inr c3))⟩
  (first | refine ⟨fun _ => ?_, fun n_ => absurd (c3) n_⟩ | refine ⟨fun n_ => absurd (c3) n_, fun _ => ?_⟩ | refine ⟨fun y_ => absurd y_ (c3), fun _ => ?_⟩ | refine ⟨fun _ => ?_, fun y_ => absurd y_ (c3)⟩)
  obtain ⟨m, hm, rfl⟩ := q_isn (n := 120) (by decide) c2
  obtain ⟨w, hw, rfl⟩ := q_isn (n := 4) (by decide) c3
  refine lr hs X hS p (fun h6 g' s6 p6 lk6 i9 r6 l6 pq => ?_)
  have vl : l < 10 := by omega
  obtain ⟨b5, b6⟩ := chR_l r6 hm hl h10
  have b7 := (r6 m hm).2.2 l hl
  have vm : vp_in (nI m) 120 := (vp_nI (by omega)).mpr hm
  have c10 : nI m * 10 + nI l = nI (10 * m + l) := by rw [n_10, nI_mul, nI_add]; congr 1; omega
  have d10 : (10 : Int32) * nI m + nI l = nI (10 * m + l) := by rw [n_10, nI_mul, nI_add]
  have vq : vp_in (nI (10 * m + l)) 1200 := (vp_nI (by omega)).mpr (by omega)
  -- the model
  have mod : ∀ (J : Option Value → ah_T → Prop), (∀ h8, Sh h8 → mNt A (nd0 A) 120 h8 → Inv TXm (CCg KX RX WX) (CMg SX) n h8 → ((¬ nI w = 0 → ((¬ nI w = 1 → ((¬ nI w = 3 → Wp mX12_burns J 0 0 98 [some (.ref 82), some (.int (nI l)), some (.int (nI m)), none, none, some (.int 0), some (.int 0)] [] h8) ∧ (nI w = 3 → (vp_in ((10 * nI m) + nI l) (ah_n h8 111)) ∧ (((ah_i h8 111 (Int32.toNatClampNeg ((10 * nI m) + nI l))) = 0 → J (some (.int 0)) h8) ∧ (¬ (ah_i h8 111 (Int32.toNatClampNeg ((10 * nI m) + nI l))) = 0 → J (some (.int 1)) h8))))) ∧ (nI w = 1 → (vp_in ((10 * nI m) + nI l) (ah_n h8 110)) ∧ J (some (.int (ah_i h8 110 (Int32.toNatClampNeg ((10 * nI m) + nI l))))) h8))) ∧ (nI w = 0 → (vp_in ((10 * nI m) + nI l) (ah_n h8 109)) ∧ (((ah_i h8 109 (Int32.toNatClampNeg ((10 * nI m) + nI l))) = 0 → J (some (.int 0)) h8) ∧ (¬ (ah_i h8 109 (Int32.toNatClampNeg ((10 * nI m) + nI l))) = 0 → J (some (.int 1)) h8))))) → Mt mX12_burns [.ref 82, .int (nI l), .int (nI m), .int (nI w)] h6 J := by
    intro J hJ
    refine T_X12_burns s6 _ _ _ ?_
    simp only [q_minute, q4]
    (first | refine ⟨fun _ => ?_, fun n_ => absurd (isLamp_t (mQs_p p6).2.2.1.2.2.1 h10 hl) n_⟩ | refine ⟨fun n_ => absurd (isLamp_t (mQs_p p6).2.2.1.2.2.1 h10 hl) n_, fun _ => ?_⟩ | refine ⟨fun y_ => absurd y_ (isLamp_t (mQs_p p6).2.2.1.2.2.1 h10 hl), fun _ => ?_⟩ | refine ⟨fun _ => ?_, fun y_ => absurd y_ (isLamp_t (mQs_p p6).2.2.1.2.2.1 h10 hl)⟩)
    (first | refine ⟨fun _ => ?_, fun n_ => absurd (c2) n_⟩ | refine ⟨fun n_ => absurd (c2) n_, fun _ => ?_⟩ | refine ⟨fun y_ => absurd y_ (c2), fun _ => ?_⟩ | refine ⟨fun _ => ?_, fun y_ => absurd y_ (c2)⟩)
    (first | refine ⟨fun _ => ?_, fun n_ => absurd (c3) n_⟩ | refine ⟨fun n_ => absurd (c3) n_, fun _ => ?_⟩ | refine ⟨fun y_ => absurd y_ (c3), fun _ => ?_⟩ | refine ⟨fun _ => ?_, fun y_ => absurd y_ (c3)⟩)
    exact md_night s6 X hW hS p6 (fun h8 s8 f8 b8 nt fin => hJ h8 s8 nt (fin h8 (knF_r s8) b8))
  have bit : ∀ (v : Bool) (h8 : ah_T), Inv TXm (CCg KX RX WX) (CMg SX) n h8 → ((bI v = 0 → (ab_qi fun w h2 => bI v = w ∧ Inv TXm (CCg KX RX WX) (CMg SX) n h2) (some (.int 0)) h8) ∧ (¬ bI v = 0 → (ab_qi fun w h2 => bI v = w ∧ Inv TXm (CCg KX RX WX) (CMg SX) n h2) (some (.int 1)) h8)) := by
    intro v h8 i8
    cases v
    · exact ⟨fun _ => ⟨_, rfl, rfl, i8⟩, fun y => absurd rfl y⟩
    · exact ⟨fun y => absurd y (by decide), fun _ => ⟨_, rfl, rfl, i8⟩⟩
  rw [c10, nI_clamp (show m < 2 ^ 31 by omega), nI_clamp (show 10 * m + l < 2 ^ 31 by omega), b_val _ (show l < 32 by omega), b_val _ (show l < 32 by omega), b5, b6, b7, sh_n s6 55 120 (by decide) (by decide) rfl, sh_n s6 56 120 (by decide) (by decide) rfl, sh_n s6 57 1200 (by decide) (by decide) rfl]
  refine ⟨fun z => ⟨vm, ⟨_, rfl, s6, mod _ (fun h8 s8 nt i8 => ?_)⟩⟩, fun z => ⟨vq, ⟨_, rfl, s6, mod _ (fun h8 s8 nt i8 => ?_)⟩⟩, fun z => ?_, fun z0 z1 z2 => ⟨vm, ⟨_, rfl, s6, mod _ (fun h8 s8 nt i8 => ?_)⟩⟩⟩
  · (first | refine ⟨fun _ => ?_, fun n_ => absurd (z) n_⟩ | refine ⟨fun n_ => absurd (z) n_, fun _ => ?_⟩ | refine ⟨fun y_ => absurd y_ (z), fun _ => ?_⟩ | refine ⟨fun _ => ?_, fun y_ => absurd y_ (z)⟩)
    rw [d10, nI_clamp (show 10 * m + l < 2 ^ 31 by omega), (nt m hm l hl).1, sh_n s8 109 1200 (by decide) (by decide) rfl]
    exact ⟨vq, bit _ h8 i8⟩
  · have z0 : ¬ nI w = 0 := by rw [z]; decide
    (first | refine ⟨fun _ => ?_, fun n_ => absurd (z0) n_⟩ | refine ⟨fun n_ => absurd (z0) n_, fun _ => ?_⟩ | refine ⟨fun y_ => absurd y_ (z0), fun _ => ?_⟩ | refine ⟨fun _ => ?_, fun y_ => absurd y_ (z0)⟩)
    (first | refine ⟨fun _ => ?_, fun n_ => absurd (z) n_⟩ | refine ⟨fun n_ => absurd (z) n_, fun _ => ?_⟩ | refine ⟨fun y_ => absurd y_ (z), fun _ => ?_⟩ | refine ⟨fun _ => ?_, fun y_ => absurd y_ (z)⟩)
    rw [d10, nI_clamp (show 10 * m + l < 2 ^ 31 by omega), (nt m hm l hl).2.2, sh_n s8 110 1200 (by decide) (by decide) rfl]
    exact ⟨vq, _, rfl, rfl, i8⟩
  · have z0 : ¬ nI w = 0 := by rw [z]; decide
    have z1 : ¬ nI w = 1 := by rw [z]; decide
    have z3 : ¬ nI w = 3 := by rw [z]; decide
    refine c_countBit s6 rfl rfl (.inr rfl) (by omega) hm ⟨_, rfl, s6, _, rfl, s6, mod _ (fun h8 s8 nt i8 => ?_)⟩
    (first | refine ⟨fun _ => ?_, fun n_ => absurd (z0) n_⟩ | refine ⟨fun n_ => absurd (z0) n_, fun _ => ?_⟩ | refine ⟨fun y_ => absurd y_ (z0), fun _ => ?_⟩ | refine ⟨fun _ => ?_, fun y_ => absurd y_ (z0)⟩)
    (first | refine ⟨fun _ => ?_, fun n_ => absurd (z1) n_⟩ | refine ⟨fun n_ => absurd (z1) n_, fun _ => ?_⟩ | refine ⟨fun y_ => absurd y_ (z1), fun _ => ?_⟩ | refine ⟨fun _ => ?_, fun y_ => absurd y_ (z1)⟩)
    (first | refine ⟨fun _ => ?_, fun n_ => absurd (z3) n_⟩ | refine ⟨fun n_ => absurd (z3) n_, fun _ => ?_⟩ | refine ⟨fun y_ => absurd y_ (z3), fun _ => ?_⟩ | refine ⟨fun _ => ?_, fun y_ => absurd y_ (z3)⟩)
    have ec : cb (fun m => bt (ah_i h6 56 m) l) (m + 1) = cb (fun m => outM A (nd0 A) m l) (m + 1) := cb_ext (fun x hx => (chR_l r6 (show x < 120 by omega) hl h10).2)
    rw [ec]
    have lp : ∀ (q x : Nat), x + q = m + 1 → Wp mX12_burns (ab_qi fun w h2 => nI (cb (fun m => outM A (nd0 A) m l) (m + 1)) = w ∧ Inv TXm (CCg KX RX WX) (CMg SX) n h2) 0 0 98 [some (.ref 82), some (.int (nI l)), some (.int (nI m)), none, none, some (.int (nI (cb (fun m => outM A (nd0 A) m l) x))), some (.int (nI x))] [] h8 := by
      intro q
      induction q with
      | zero =>
        intro x hx
        have e9 : x = m + 1 := by omega
        subst e9
        refine T_X12_burns_98 s8 _ _ _ _ ?_
        (first | refine ⟨fun _ => ?_, fun n_ => absurd (show nI m < nI (m + 1) from nI_lt (by omega) (by omega)) n_⟩ | refine ⟨fun n_ => absurd (show nI m < nI (m + 1) from nI_lt (by omega) (by omega)) n_, fun _ => ?_⟩ | refine ⟨fun y_ => absurd y_ (show nI m < nI (m + 1) from nI_lt (by omega) (by omega)), fun _ => ?_⟩ | refine ⟨fun _ => ?_, fun y_ => absurd y_ (show nI m < nI (m + 1) from nI_lt (by omega) (by omega))⟩)
        exact ⟨_, rfl, rfl, i8⟩
      | succ q ih =>
        intro x hx
        have e10 : (10 : Int32) * nI x + nI l = nI (10 * x + l) := by rw [n_10, nI_mul, nI_add]
        refine T_X12_burns_98 s8 _ _ _ _ ?_
        (first | refine ⟨fun _ => ?_, fun n_ => absurd (show ¬ nI m < nI x by rw [nI_ltI (by omega) (by omega)]; omega) n_⟩ | refine ⟨fun n_ => absurd (show ¬ nI m < nI x by rw [nI_ltI (by omega) (by omega)]; omega) n_, fun _ => ?_⟩ | refine ⟨fun y_ => absurd y_ (show ¬ nI m < nI x by rw [nI_ltI (by omega) (by omega)]; omega), fun _ => ?_⟩ | refine ⟨fun _ => ?_, fun y_ => absurd y_ (show ¬ nI m < nI x by rw [nI_ltI (by omega) (by omega)]; omega)⟩)
        rw [e10, nI_1, nI_clamp (show 10 * x + l < 2 ^ 31 by omega), (nt x (by omega) l hl).2.1, sh_n s8 111 1200 (by decide) (by decide) rfl, bI_0]
        refine ⟨(vp_nI (by omega)).mpr (by omega), fun y => ?_, fun y => ?_⟩
        · have e : nI (cb (fun m => outM A (nd0 A) m l) x) + 0 = nI (cb (fun m => outM A (nd0 A) m l) (x + 1)) := by
            show _ = nI (cb _ x + (if outM A (nd0 A) x l = true then 1 else 0))
            rw [y, Int32.add_zero]
            rfl
          rw [e]
          exact ih (x + 1) (by omega)
        · have yt : outM A (nd0 A) x l = true := by cases e : outM A (nd0 A) x l; exact absurd e y; rfl
          have e : nI (cb (fun m => outM A (nd0 A) m l) x) + 1 = nI (cb (fun m => outM A (nd0 A) m l) (x + 1)) := by
            show _ = nI (cb _ x + (if outM A (nd0 A) x l = true then 1 else 0))
            rw [yt, nI_1]
            rfl
          rw [e]
          exact ih (x + 1) (by omega)
    exact lp (m + 1) 0 (by omega)
  · have z3 : nI w = 3 := by
      have : w = 3 := by
        have w0 : w ≠ 0 := fun y => z0 (by rw [y]; rfl)
        have w1 : w ≠ 1 := fun y => z1 (by rw [y]; rfl)
        have w2 : w ≠ 2 := fun y => z2 (by rw [y]; rfl)
        omega
      rw [this]; rfl
    (first | refine ⟨fun _ => ?_, fun n_ => absurd (z0) n_⟩ | refine ⟨fun n_ => absurd (z0) n_, fun _ => ?_⟩ | refine ⟨fun y_ => absurd y_ (z0), fun _ => ?_⟩ | refine ⟨fun _ => ?_, fun y_ => absurd y_ (z0)⟩)
    (first | refine ⟨fun _ => ?_, fun n_ => absurd (z1) n_⟩ | refine ⟨fun n_ => absurd (z1) n_, fun _ => ?_⟩ | refine ⟨fun y_ => absurd y_ (z1), fun _ => ?_⟩ | refine ⟨fun _ => ?_, fun y_ => absurd y_ (z1)⟩)
    (first | refine ⟨fun _ => ?_, fun n_ => absurd (z3) n_⟩ | refine ⟨fun n_ => absurd (z3) n_, fun _ => ?_⟩ | refine ⟨fun y_ => absurd y_ (z3), fun _ => ?_⟩ | refine ⟨fun _ => ?_, fun y_ => absurd y_ (z3)⟩)
    rw [d10, nI_clamp (show 10 * m + l < 2 ^ 31 by omega), (nt m hm l hl).2.1, sh_n s8 111 1200 (by decide) (by decide) rfl]
    exact ⟨vq, bit _ h8 i8⟩
end BU
