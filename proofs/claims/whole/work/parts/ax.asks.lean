/-! ===== far, asks on both sides ===== -/
section FA
variable {KX : ah_T → Prop} {RX WX SX : (Nat → Nat) → ah_T → Prop} {A A' : Nat → Nat} {h h' h2 g : ah_T} {g0 n : Nat}
def hWp (KX : ah_T → Prop) (RX : (Nat → Nat) → ah_T → Prop) : Prop := ∀ A h, KX h → RX A h → A 245 ≤ 20 ∧ A 246 ≤ 10
theorem chO_m (f : tmF h g) (o : chO A h) : chO A g := by
  have e : ∀ a, 43 ≤ a → ∀ j, ah_i g a j = ah_i h a j := fun a ha => (f.2.2.1 a (by omega) (by omega) (by omega) (by omega) (by omega) (by omega) (by omega)).1
  unfold chO at o ⊢
  rw [e 54 (by omega)]
  rcases o with y | ⟨y, r, l⟩
  · exact .inl y
  · exact .inr ⟨y, chR_fr (fun b hb => e b (by omega)) r, chL_fr (e 59 (by omega)) l⟩
theorem lkO_m (X : XP KX RX WX) (f : tmF h g) (t : tmN g0 A g) (l : lkO KX RX WX g0 A h) : lkO KX RX WX g0 A g := by
  have e0 := (f.2.2.1 0 (by decide) (by decide) (by decide) (by decide) (by decide) (by decide) (by decide)).1
  exact lkO_ch X (chF_m f) (cor_m f t l.1) (chO_m f l.2.1) ⟨e0 18, e0 19⟩ l
theorem lkO_ak (X : XP KX RX WX) {tp : Prop} (f : akF h g) (t : tpO (lawL A) (A 242) (A 244) g0 g) (l : lkO KX RX WX g0 A h) : lkO KX RX WX g0 A g := lkO_m X (tmF_ak f) (tm_ask f t l.1.2.1) l
theorem f_steps {a b : Nat} (ha : a < 12) (hb : b < 12) : f_X6_steps h (nI a) (nI b) = ah_i h 33 (12 * a + b) := by
  unfold f_X6_steps
  have q1 : ¬ f_X11_isIn (nI a) 12 = 0 := q_is0 (n := 12) (by decide) ha
  have q2 : ¬ f_X11_isIn (nI b) 12 = 0 := q_is0 (n := 12) (by decide) hb
  rw [if_neg q1, if_neg q2, n_12, nI_mul, nI_add, nI_clamp (by omega), Nat.mul_comm]
theorem isLamp_t (e : ah_i h 84 246 = nI (A 246)) (h10 : A 246 ≤ 10) {l : Nat} (hl : l < A 246) : ¬ f_X12_isLamp h (nI l) = 0 := by
  unfold f_X12_isLamp
  rw [show Int32.toNatClampNeg 246 = 246 from rfl, e, q_has (by omega), if_pos ⟨nI_pos' (by omega), nI_lt hl (by omega)⟩]
  decide
theorem isLamp_f (e : ah_i h 84 246 = nI (A 246)) (h10 : A 246 ≤ 10) {x : Int32} (hx : ¬ (0 ≤ x ∧ x < nI (A 246))) : f_X12_isLamp h x = 0 := by
  unfold f_X12_isLamp
  rw [show Int32.toNatClampNeg 246 = 246 from rfl, e, q_has (by omega), if_neg hx]
theorem gen_of (p : preQ KX RX WX SX n A h) : ∃ G : Nat, (ah_l h 38 7).toInt = G ∧ G < 2 ^ 29 := by
  obtain ⟨_, _, _, ⟨g, c5, c6⟩, _⟩ := p
  exact ⟨g, c5, by omega⟩
theorem rel_far (X : XP KX RX WX) (hW : hWp KX RX) (hS : SXp SX) (a b c : Int32) : lw_RC (Inv TXm (CCg KX RX WX) (CMg SX) (n + 1)) (Inv TXm (CCg KX RX WX) (CMg SX) n) mX11_far mX12_far [.int a, .int b, .int c] := by
  intro h hI
  obtain ⟨hs, A, p⟩ := pre_of hI
  refine T_X11_far hs a b c ?_
  by_cases c1 : f_X11_isIn a 12 = 0
  · (first | refine ⟨fun _ => ?_, fun n_ => absurd (c1) n_⟩ | refine ⟨fun n_ => absurd (c1) n_, fun _ => ?_⟩ | refine ⟨fun y_ => absurd y_ (c1), fun _ => ?_⟩ | refine ⟨fun _ => ?_, fun y_ => absurd y_ (c1)⟩)
    refine ⟨_, rfl, hs, T_X12_far hs a b c ?_⟩
    simp only [q_corner, q_two]
    (first | refine ⟨fun _ => ?_, fun n_ => absurd (c1) n_⟩ | refine ⟨fun n_ => absurd (c1) n_, fun _ => ?_⟩ | refine ⟨fun y_ => absurd y_ (c1), fun _ => ?_⟩ | refine ⟨fun _ => ?_, fun y_ => absurd y_ (c1)⟩)
    exact ⟨_, rfl, rfl, inv_less hs p⟩
  (first | refine ⟨fun _ => ?_, fun n_ => absurd (c1) n_⟩ | refine ⟨fun n_ => absurd (c1) n_, fun _ => ?_⟩ | refine ⟨fun y_ => absurd y_ (c1), fun _ => ?_⟩ | refine ⟨fun _ => ?_, fun y_ => absurd y_ (c1)⟩)
  by_cases c2 : f_X11_isIn b 12 = 0
  · (first | refine ⟨fun _ => ?_, fun n_ => absurd (c2) n_⟩ | refine ⟨fun n_ => absurd (c2) n_, fun _ => ?_⟩ | refine ⟨fun y_ => absurd y_ (c2), fun _ => ?_⟩ | refine ⟨fun _ => ?_, fun y_ => absurd y_ (c2)⟩)
    refine ⟨_, rfl, hs, T_X12_far hs a b c ?_⟩
    simp only [q_corner, q_two]
    (first | refine ⟨fun _ => ?_, fun n_ => absurd (c1) n_⟩ | refine ⟨fun n_ => absurd (c1) n_, fun _ => ?_⟩ | refine ⟨fun y_ => absurd y_ (c1), fun _ => ?_⟩ | refine ⟨fun _ => ?_, fun y_ => absurd y_ (c1)⟩)
    (first | refine ⟨fun _ => ?_, fun n_ => absurd (c2) n_⟩ | refine ⟨fun n_ => absurd (c2) n_, fun _ => ?_⟩ | refine ⟨fun y_ => absurd y_ (c2), fun _ => ?_⟩ | refine ⟨fun _ => ?_, fun y_ => absurd y_ (c2)⟩)
    exact ⟨_, rfl, rfl, inv_less hs p⟩
  (first | refine ⟨fun _ => ?_, fun n_ => absurd (c2) n_⟩ | refine ⟨fun n_ => absurd (c2) n_, fun _ => ?_⟩ | refine ⟨fun y_ => absurd y_ (c2), fun _ => ?_⟩ | refine ⟨fun _ => ?_, fun y_ => absurd y_ (c2)⟩)
  by_cases c3 : f_X11_isIn c 2 = 0
  · (first | refine ⟨fun _ => ?_, fun n_ => absurd (c3) n_⟩ | refine ⟨fun n_ => absurd (c3) n_, fun _ => ?_⟩ | refine ⟨fun y_ => absurd y_ (c3), fun _ => ?_⟩ | refine ⟨fun _ => ?_, fun y_ => absurd y_ (c3)⟩)
    refine ⟨_, rfl, hs, T_X12_far hs a b c ?_⟩
    simp only [q_corner, q_two]
    (first | refine ⟨fun _ => ?_, fun n_ => absurd (c1) n_⟩ | refine ⟨fun n_ => absurd (c1) n_, fun _ => ?_⟩ | refine ⟨fun y_ => absurd y_ (c1), fun _ => ?_⟩ | refine ⟨fun _ => ?_, fun y_ => absurd y_ (c1)⟩)
    (first | refine ⟨fun _ => ?_, fun n_ => absurd (c2) n_⟩ | refine ⟨fun n_ => absurd (c2) n_, fun _ => ?_⟩ | refine ⟨fun y_ => absurd y_ (c2), fun _ => ?_⟩ | refine ⟨fun _ => ?_, fun y_ => absurd y_ (c2)⟩)
    (first | refine ⟨fun _ => ?_, fun n_ => absurd (c3) n_⟩ | refine ⟨fun n_ => absurd (c3) n_, fun _ => ?_⟩ | refine ⟨fun y_ => absurd y_ (c3), fun _ => ?_⟩ | refine ⟨fun _ => ?_, fun y_ => absurd y_ (c3)⟩)
    exact ⟨_, rfl, rfl, inv_less hs p⟩
  (first | refine ⟨fun _ => ?_, fun n_ => absurd (c3) n_⟩ | refine ⟨fun n_ => absurd (c3) n_, fun _ => ?_⟩ | refine ⟨fun y_ => absurd y_ (c3), fun _ => ?_⟩ | refine ⟨fun _ => ?_, fun y_ => absurd y_ (c3)⟩)
  obtain ⟨i, hi, rfl⟩ := q_isn (n := 12) (by decide) c1
  obtain ⟨j, hj, rfl⟩ := q_isn (n := 12) (by decide) c2
  obtain ⟨w, hw, rfl⟩ := q_isn (n := 2) (by decide) c3
  have p' := p
  obtain ⟨⟨B0, B1, d, D, wf, tn, _⟩, cc, cm⟩ := p'
  obtain ⟨G, hG, hG2⟩ := gen_of p
  refine c_look hs X wf tn cc hG hG2 (fun h1 g' f1 hg' lk => ⟨rfl, f1.1, ?_⟩)
  have p1 := preQ_lk hS p hG f1 hg' lk
  obtain ⟨⟨B0', B1', d', D', wf', tn', _⟩, cc', cm'⟩ := p1
  have p1 := preQ_lk hS p hG f1 hg' lk
  have mt := mTw_of wf' tn'
  have st := lk.1.2.2.2.1
  have c12 : nI i * 12 + nI j = nI (12 * i + j) := by rw [n_12, nI_mul, nI_add]; congr 1; omega
  have d12 : (12 : Int32) * nI i + nI j = nI (12 * i + j) := by rw [n_12, nI_mul, nI_add]
  have vq : vp_in (nI (12 * i + j)) 144 := (vp_nI (by omega)).mpr (by omega)
  have cont : ∀ (h3 : ah_T) (r : Nat), (r = 98 ∨ r = 99) → Sh h3 → ah_x h3 = ah_x h1 → (∀ a, a ≠ r → eqc h1 h3 a) → Inv TXm (CCg KX RX WX) (CMg SX) n h3 := by
    intro h3 r hr s3 x3 e3
    have f3 : mdF h1 h3 := ⟨s3, x3, fun a ha => e3 a (by omega), fun j _ => (e3 82 (by omega)).1 j⟩
    have c8 := p1.2.2.2.2.2
    exact inv_md X hW hS p1 f3 (mKn_e (fun a ha => (e3 a (by omega)).1) ((e3 82 (by omega)).1 29) ((e3 82 (by omega)).1 1) c8.1) (mNg_e (fun a ha => (e3 a (by omega)).1) ((e3 82 (by omega)).1 49) ((e3 82 (by omega)).1 1) c8.2.1) (.inl ((e3 82 (by omega)).1 49))
  rw [f_steps hi hj, f_sight hi hj, c12, sh_n f1.1 33 144 (by decide) (by decide) rfl, sh_n f1.1 34 144 (by decide) (by decide) rfl]
  have nz : nI w = 0 ↔ w = 0 := nI_eq (b := 0) (by omega) (by omega)
  rw [nz]
  refine ⟨fun z => ⟨fun _ _ => vq, ?_⟩, fun z => ⟨fun _ _ => vq, ?_⟩⟩
  · have w1 : w = 1 := by omega
    subst w1
    refine ⟨_, rfl, f1.1, T_X12_far f1.1 _ _ _ ?_⟩
    simp only [q_corner, q_two]
    (first | refine ⟨fun _ => ?_, fun n_ => absurd (c1) n_⟩ | refine ⟨fun n_ => absurd (c1) n_, fun _ => ?_⟩ | refine ⟨fun y_ => absurd y_ (c1), fun _ => ?_⟩ | refine ⟨fun _ => ?_, fun y_ => absurd y_ (c1)⟩)
    (first | refine ⟨fun _ => ?_, fun n_ => absurd (c2) n_⟩ | refine ⟨fun n_ => absurd (c2) n_, fun _ => ?_⟩ | refine ⟨fun y_ => absurd y_ (c2), fun _ => ?_⟩ | refine ⟨fun _ => ?_, fun y_ => absurd y_ (c2)⟩)
    (first | refine ⟨fun _ => ?_, fun n_ => absurd (c3) n_⟩ | refine ⟨fun n_ => absurd (c3) n_, fun _ => ?_⟩ | refine ⟨fun y_ => absurd y_ (c3), fun _ => ?_⟩ | refine ⟨fun _ => ?_, fun y_ => absurd y_ (c3)⟩)
    (first | refine ⟨fun _ => ?_, fun n_ => absurd (show ¬ nI 1 = 0 by decide) n_⟩ | refine ⟨fun n_ => absurd (show ¬ nI 1 = 0 by decide) n_, fun _ => ?_⟩ | refine ⟨fun y_ => absurd y_ (show ¬ nI 1 = 0 by decide), fun _ => ?_⟩ | refine ⟨fun _ => ?_, fun y_ => absurd y_ (show ¬ nI 1 = 0 by decide)⟩)
    (first | refine ⟨fun _ => ?_, fun n_ => absurd (show ¬ nI 1 = 0 by decide) n_⟩ | refine ⟨fun n_ => absurd (show ¬ nI 1 = 0 by decide) n_, fun _ => ?_⟩ | refine ⟨fun y_ => absurd y_ (show ¬ nI 1 = 0 by decide), fun _ => ?_⟩ | refine ⟨fun _ => ?_, fun y_ => absurd y_ (show ¬ nI 1 = 0 by decide)⟩)
    refine m_shutNow f1.1 mt.1.1 mt.1.2.1 mt.2.1 (fun x hx => ⟨_, rfl, f1.1, ?_⟩)
    have eE : Ew A (fun v => v < A 245 ∧ A (3 * v + 2) = 1) = Ew A (shS A) := by
      refine funext fun a => funext fun b => propext ?_
      exact ⟨fun ⟨w, y1, y2, y3⟩ => ⟨w, y1, fun y => y2 ⟨y1, y⟩, y3⟩, fun ⟨w, y1, y2, y3⟩ => ⟨w, y1, fun y => y2 y.2, y3⟩⟩
    refine m_measures (s := fun v => v < A 245 ∧ A (3 * v + 2) = 1) (.inr rfl) f1.1 mt.1 x (fun v hv => ?_) (fun h3 s3 x3 e3 d3 => ⟨rfl, s3, ?_⟩)
    · show f_X12_isIn x (nI v) = 0 ↔ ¬ (v < A 245 ∧ A (3 * v + 2) = 1)
      rw [isIn_bt x (by omega), ← hx v (by omega)]
      cases bt x v
      · exact ⟨fun _ y => absurd y (by decide), fun _ => rfl⟩
      · exact ⟨fun y => absurd y (by decide), fun y => absurd rfl y⟩
    · rw [d12, sh_n s3 99 144 (by decide) (by decide) rfl, nI_clamp (show 12 * i + j < 2 ^ 31 by omega)]
      rw [eE] at d3
      exact ⟨vq, _, rfl, dst_u (st.2.2.2.1 i j hi hj) (d3 i j hi hj), cont h3 99 (.inr rfl) s3 x3 e3⟩
  · subst z
    refine ⟨_, rfl, f1.1, T_X12_far f1.1 _ _ _ ?_⟩
    simp only [q_corner, q_two]
    (first | refine ⟨fun _ => ?_, fun n_ => absurd (c1) n_⟩ | refine ⟨fun n_ => absurd (c1) n_, fun _ => ?_⟩ | refine ⟨fun y_ => absurd y_ (c1), fun _ => ?_⟩ | refine ⟨fun _ => ?_, fun y_ => absurd y_ (c1)⟩)
    (first | refine ⟨fun _ => ?_, fun n_ => absurd (c2) n_⟩ | refine ⟨fun n_ => absurd (c2) n_, fun _ => ?_⟩ | refine ⟨fun y_ => absurd y_ (c2), fun _ => ?_⟩ | refine ⟨fun _ => ?_, fun y_ => absurd y_ (c2)⟩)
    (first | refine ⟨fun _ => ?_, fun n_ => absurd (c3) n_⟩ | refine ⟨fun n_ => absurd (c3) n_, fun _ => ?_⟩ | refine ⟨fun y_ => absurd y_ (c3), fun _ => ?_⟩ | refine ⟨fun _ => ?_, fun y_ => absurd y_ (c3)⟩)
    (first | refine ⟨fun _ => ?_, fun n_ => absurd (show nI 0 = 0 from rfl) n_⟩ | refine ⟨fun n_ => absurd (show nI 0 = 0 from rfl) n_, fun _ => ?_⟩ | refine ⟨fun y_ => absurd y_ (show nI 0 = 0 from rfl), fun _ => ?_⟩ | refine ⟨fun _ => ?_, fun y_ => absurd y_ (show nI 0 = 0 from rfl)⟩)
    (first | refine ⟨fun _ => ?_, fun n_ => absurd (show nI 0 = 0 from rfl) n_⟩ | refine ⟨fun n_ => absurd (show nI 0 = 0 from rfl) n_, fun _ => ?_⟩ | refine ⟨fun y_ => absurd y_ (show nI 0 = 0 from rfl), fun _ => ?_⟩ | refine ⟨fun _ => ?_, fun y_ => absurd y_ (show nI 0 = 0 from rfl)⟩)
    refine m_measures (s := noS) (.inl rfl) f1.1 mt.1 0 (fun v hv => ?_) (fun h3 s3 x3 e3 d3 => ⟨rfl, s3, ?_⟩)
    · rw [isIn_bt 0 (by omega), b_0]
      exact ⟨fun _ y => y, fun _ => rfl⟩
    · rw [d12, sh_n s3 98 144 (by decide) (by decide) rfl, nI_clamp (show 12 * i + j < 2 ^ 31 by omega)]
      exact ⟨vq, _, rfl, dst_u (st.2.2.1 i j hi hj) (d3 i j hi hj), cont h3 98 (.inl rfl) s3 x3 e3⟩
/-- all the model's asking rests on, out of what holds -/
theorem mQs_p (p : preQ KX RX WX SX n A h) : mQs A h := by
  obtain ⟨⟨B0, B1, d, D, wf, tn, _⟩, cc, _, _, _, c8, _⟩ := p
  exact ⟨mLw_of wf tn, c8, mTw_of wf tn, mSw_of wf tn⟩
theorem rel_asks (X : XP KX RX WX) (hW : hWp KX RX) (hS : SXp SX) (a b c e : Int32) : lw_RC (Inv TXm (CCg KX RX WX) (CMg SX) (n + 1)) (Inv TXm (CCg KX RX WX) (CMg SX) n) mX11_asks mX12_asks [.int a, .int b, .int c, .int e] := by
  intro h hI
  obtain ⟨hs, A, p⟩ := pre_of hI
  have p' := p
  obtain ⟨⟨B0, B1, d, D, wf, tn, _⟩, cc, cm⟩ := p'
  have tw := cTw_of wf tn
  have mq := mQs_p p
  have h10 := wf.2.1.1
  have m246 := mq.2.2.1.2.2.1
  have no : ∀ (h' : ah_T) , Sh h' → preQ KX RX WX SX (n + 1) A h' → (f_X12_isLamp h' a = 0 ∨ f_X11_isIn c 120 = 0 ∨ f_X11_isIn e 3 = 0) → Mt mX12_asks [.ref 82, .int a, .int b, .int c, .int e] h' (ab_qi fun w h2 => -1 = w ∧ Inv TXm (CCg KX RX WX) (CMg SX) n h2) := by
    intro h' s' p' o
    refine T_X12_asks s' _ _ _ _ ?_
    simp only [q_minute, q_three]
    have done : (ab_qi fun w h2 => -1 = w ∧ Inv TXm (CCg KX RX WX) (CMg SX) n h2) (some (.int (-1))) h' := ⟨_, rfl, rfl, inv_less s' p'⟩
    by_cases z1 : f_X12_isLamp h' a = 0
    · (first | refine ⟨fun _ => ?_, fun n_ => absurd (z1) n_⟩ | refine ⟨fun n_ => absurd (z1) n_, fun _ => ?_⟩ | refine ⟨fun y_ => absurd y_ (z1), fun _ => ?_⟩ | refine ⟨fun _ => ?_, fun y_ => absurd y_ (z1)⟩)
      exact done
    (first | refine ⟨fun _ => ?_, fun n_ => absurd (z1) n_⟩ | refine ⟨fun n_ => absurd (z1) n_, fun _ => ?_⟩ | refine ⟨fun y_ => absurd y_ (z1), fun _ => ?_⟩ | refine ⟨fun _ => ?_, fun y_ => absurd y_ (z1)⟩)
    by_cases z2 : f_X11_isIn c 120 = 0
    · (first | refine ⟨fun _ => ?_, fun n_ => absurd (z2) n_⟩ | refine ⟨fun n_ => absurd (z2) n_, fun _ => ?_⟩ | refine ⟨fun y_ => absurd y_ (z2), fun _ => ?_⟩ | refine ⟨fun _ => ?_, fun y_ => absurd y_ (z2)⟩)
      exact done
    (first | refine ⟨fun _ => ?_, fun n_ => absurd (z2) n_⟩ | refine ⟨fun n_ => absurd (z2) n_, fun _ => ?_⟩ | refine ⟨fun y_ => absurd y_ (z2), fun _ => ?_⟩ | refine ⟨fun _ => ?_, fun y_ => absurd y_ (z2)⟩)
    have z3 : f_X11_isIn e 3 = 0 := (o.resolve_left z1).resolve_left z2
    (first | refine ⟨fun _ => ?_, fun n_ => absurd (z3) n_⟩ | refine ⟨fun n_ => absurd (z3) n_, fun _ => ?_⟩ | refine ⟨fun y_ => absurd y_ (z3), fun _ => ?_⟩ | refine ⟨fun _ => ?_, fun y_ => absurd y_ (z3)⟩)
    exact done
  refine T_X11_asks hs a b c e (c_has3 hs (by omega) tw.1.2.1 (by omega) (fun l hl el => ⟨_, rfl, hs, ?_⟩) (fun c0 => ⟨_, rfl, hs, ?_⟩))
  rotate_left
  · (first | refine ⟨fun _ => ?_, fun n_ => absurd (show (0 : Int32) = 0 from rfl) n_⟩ | refine ⟨fun n_ => absurd (show (0 : Int32) = 0 from rfl) n_, fun _ => ?_⟩ | refine ⟨fun y_ => absurd y_ (show (0 : Int32) = 0 from rfl), fun _ => ?_⟩ | refine ⟨fun _ => ?_, fun y_ => absurd y_ (show (0 : Int32) = 0 from rfl)⟩)
    exact ⟨_, rfl, hs, no h hs p (.inl (isLamp_f m246 h10 c0))⟩
  subst el
  (first | refine ⟨fun _ => ?_, fun n_ => absurd (show ¬ (1 : Int32) = 0 by decide) n_⟩ | refine ⟨fun n_ => absurd (show ¬ (1 : Int32) = 0 by decide) n_, fun _ => ?_⟩ | refine ⟨fun y_ => absurd y_ (show ¬ (1 : Int32) = 0 by decide), fun _ => ?_⟩ | refine ⟨fun _ => ?_, fun y_ => absurd y_ (show ¬ (1 : Int32) = 0 by decide)⟩)
  by_cases c2 : f_X11_isIn c 120 = 0
  · (first | refine ⟨fun _ => ?_, fun n_ => absurd (c2) n_⟩ | refine ⟨fun n_ => absurd (c2) n_, fun _ => ?_⟩ | refine ⟨fun y_ => absurd y_ (c2), fun _ => ?_⟩ | refine ⟨fun _ => ?_, fun y_ => absurd y_ (c2)⟩)
    exact ⟨_, rfl, hs, no h hs p (.inr (.inl c2))⟩
  (first | refine ⟨fun _ => ?_, fun n_ => absurd (c2) n_⟩ | refine ⟨fun n_ => absurd (c2) n_, fun _ => ?_⟩ | refine ⟨fun y_ => absurd y_ (c2), fun _ => ?_⟩ | refine ⟨fun _ => ?_, fun y_ => absurd y_ (c2)⟩)
  by_cases c3 : f_X11_isIn e 3 = 0
  · (first | refine ⟨fun _ => ?_, fun n_ => absurd (c3) n_⟩ | refine ⟨fun n_ => absurd (c3) n_, fun _ => ?_⟩ | refine ⟨fun y_ => absurd y_ (c3), fun _ => ?_⟩ | refine ⟨fun _ => ?_, fun y_ => absurd y_ (c3)⟩)
    exact ⟨_, rfl, hs, no h hs p (.inr (.inr c3))⟩
  (first | refine ⟨fun _ => ?_, fun n_ => absurd (c3) n_⟩ | refine ⟨fun n_ => absurd (c3) n_, fun _ => ?_⟩ | refine ⟨fun y_ => absurd y_ (c3), fun _ => ?_⟩ | refine ⟨fun _ => ?_, fun y_ => absurd y_ (c3)⟩)
  obtain ⟨m, hm, rfl⟩ := q_isn (n := 120) (by decide) c2
  obtain ⟨w, hw, rfl⟩ := q_isn (n := 3) (by decide) c3
  obtain ⟨G, hG, hG2⟩ := gen_of p
  refine c_look hs X wf tn cc hG hG2 (fun h1 g' f1 hg' lk => ⟨rfl, f1.1, ?_⟩)
  have p1 := preQ_lk hS p hG f1 hg' lk
  have lm := lk.1.1.1
  have tm := lk.1.2.1
  obtain ⟨u1, u2, _⟩ := wf.2.1.2 l hl
  refine lm_get f1.1 lm rfl (k := 1) rfl hl (by omega) ⟨_, rfl, f1.1, ?_⟩
  rw [show 60 + 3 * l + 1 = 61 + 3 * l by omega]
  -- the model, behind the class
  have mod : ∀ (g1 : ah_T), preQ KX RX WX SX n A g1 → Sh g1 → ∀ (J : Option Value → ah_T → Prop), (∀ g2, lkF g1 g2 → mBa A (nd0 A) g2 → ((¬ nI w = 1 → ((¬ nI w = 2 → (((f_X12_isLamp g2 b) = 0 → J (some (.int (-1))) g2) ∧ (¬ (f_X12_isLamp g2 b) = 0 → ((¬ b = nI l → (vp_in (nI l) (ah_n g2 101)) ∧ (vp_in b (ah_n g2 101)) ∧ (vp_in (nI l) (ah_n g2 100)) ∧ (vp_in b (ah_n g2 100)) ∧ (vp_in ((12 * (ah_i g2 100 (Int32.toNatClampNeg (nI l)))) + (ah_i g2 100 (Int32.toNatClampNeg b))) (ah_n g2 99)) ∧ ((nI l ≤ b → (Mt mX12_doesShun [.ref 82, .int (nI l), .int (ah_i g2 101 (Int32.toNatClampNeg (nI l))), .int (ah_i g2 101 (Int32.toNatClampNeg b)), .int (ah_i g2 99 (Int32.toNatClampNeg ((12 * (ah_i g2 100 (Int32.toNatClampNeg (nI l)))) + (ah_i g2 100 (Int32.toNatClampNeg b))))), .int 0, .int (nI m)] g2 (ab_qi fun v19 h17 => Sh h17 ∧ ((v19 = 0 → J (some (.int 0)) h17) ∧ (¬ v19 = 0 → J (some (.int 1)) h17))))) ∧ (¬ nI l ≤ b → (Mt mX12_doesShun [.ref 82, .int (nI l), .int (ah_i g2 101 (Int32.toNatClampNeg (nI l))), .int (ah_i g2 101 (Int32.toNatClampNeg b)), .int (ah_i g2 99 (Int32.toNatClampNeg ((12 * (ah_i g2 100 (Int32.toNatClampNeg (nI l)))) + (ah_i g2 100 (Int32.toNatClampNeg b))))), .int 1, .int (nI m)] g2 (ab_qi fun v23 h21 => Sh h21 ∧ ((v23 = 0 → J (some (.int 0)) h21) ∧ (¬ v23 = 0 → J (some (.int 1)) h21))))))) ∧ (b = nI l → J (some (.int (-1))) g2))))) ∧ (nI w = 2 → (vp_in (nI l) (ah_n g2 101)) ∧ (Mt mX12_drinkOf [.ref 82, .int (nI l), .int (ah_i g2 101 (Int32.toNatClampNeg (nI l))), .int (nI m)] g2 (ab_qi fun v28 h26 => Sh h26 ∧ J (some (.int v28)) h26))))) ∧ (nI w = 1 → (vp_in (nI l) (ah_n g2 101)) ∧ (Mt mX12_reachOf [.ref 82, .int (nI l), .int (ah_i g2 101 (Int32.toNatClampNeg (nI l))), .int (nI m)] g2 (ab_qi fun v33 h31 => Sh h31 ∧ J (some (.int v33)) h31))))) → Mt mX12_asks [.ref 82, .int (nI l), .int b, .int (nI m), .int (nI w)] g1 J := by
    intro g1 q1 s1 J hJ
    have mq1 := mQs_p q1
    refine T_X12_asks s1 _ _ _ _ ?_
    simp only [q_minute, q_three]
    (first | refine ⟨fun _ => ?_, fun n_ => absurd (isLamp_t mq1.2.2.1.2.2.1 h10 hl) n_⟩ | refine ⟨fun n_ => absurd (isLamp_t mq1.2.2.1.2.2.1 h10 hl) n_, fun _ => ?_⟩ | refine ⟨fun y_ => absurd y_ (isLamp_t mq1.2.2.1.2.2.1 h10 hl), fun _ => ?_⟩ | refine ⟨fun _ => ?_, fun y_ => absurd y_ (isLamp_t mq1.2.2.1.2.2.1 h10 hl)⟩)
    (first | refine ⟨fun _ => ?_, fun n_ => absurd (c2) n_⟩ | refine ⟨fun n_ => absurd (c2) n_, fun _ => ?_⟩ | refine ⟨fun y_ => absurd y_ (c2), fun _ => ?_⟩ | refine ⟨fun _ => ?_, fun y_ => absurd y_ (c2)⟩)
    (first | refine ⟨fun _ => ?_, fun n_ => absurd (c3) n_⟩ | refine ⟨fun n_ => absurd (c3) n_, fun _ => ?_⟩ | refine ⟨fun y_ => absurd y_ (c3), fun _ => ?_⟩ | refine ⟨fun _ => ?_, fun y_ => absurd y_ (c3)⟩)
    refine m_looks s1 mq1.2.2.1 (fun g2 f2 d2 => ⟨rfl, f2.1, ?_⟩)
    exact hJ g2 f2 (mBa_l f2 d2 (Nat.le_refl _) mq1)
  have fin : ∀ (g1 g2 g3 : ah_T), preQ KX RX WX SX n A g1 → lkF g1 g2 → mBa A (nd0 A) g2 → knF g2 g3 → mBa A (nd0 A) g3 → Inv TXm (CCg KX RX WX) (CMg SX) n g3 := by
    intro g1 g2 g3 q1 f2 b2 f3 b3
    have c9 := q1.2.2.2.2.2.2.1
    refine inv_md X hW hS q1 (mdF_t (mdF_l f2) (mdF_k f3)) b3.2.1 (mNg_e (fun a ha j => ?_) ?_ ?_ c9) (.inl ?_)
    · rw [(f3.2.2.1 a (by omega) (by omega) (by omega) (by omega) (by omega)).1, (f2.2.2.1 a (by omega) (by omega) (by omega) (by omega) (by omega) (by omega)).1]
    · rw [f3.2.2.2 49 (by decide) (by decide) (by decide) (by decide) (by decide), f2.2.2.2 49 (by decide) (by decide) (by decide)]
    · rw [f3.2.2.2 1 (by decide) (by decide) (by decide) (by decide) (by decide), f2.2.2.2 1 (by decide) (by decide) (by decide)]
    · rw [f3.2.2.2 49 (by decide) (by decide) (by decide) (by decide) (by decide), f2.2.2.2 49 (by decide) (by decide) (by decide)]
  have n101 : ∀ {g : ah_T}, Sh g → ah_n g 101 = 10 := fun hs => sh_n hs 101 10 (by decide) (by decide) rfl
  have n100 : ∀ {g : ah_T}, Sh g → ah_n g 100 = 10 := fun hs => sh_n hs 100 10 (by decide) (by decide) rfl
  have vl : vp_in (nI l) 10 := (vp_nI (by omega)).mpr (by omega)
  rcases (show w = 0 ∨ w = 1 ∨ w = 2 by omega) with rfl | rfl | rfl
  · (first | refine ⟨fun _ => ?_, fun n_ => absurd (show nI 0 = 0 from rfl) n_⟩ | refine ⟨fun n_ => absurd (show nI 0 = 0 from rfl) n_, fun _ => ?_⟩ | refine ⟨fun y_ => absurd y_ (show nI 0 = 0 from rfl), fun _ => ?_⟩ | refine ⟨fun _ => ?_, fun y_ => absurd y_ (show nI 0 = 0 from rfl)⟩)
    have e3 : ah_i h1 4 3 = nI (A 246) := lm.2.1
    have nb : ∀ (g1 : ah_T), Sh g1 → preQ KX RX WX SX n A g1 → (¬ (0 ≤ b ∧ b < nI (A 246)) ∨ b = nI l) → Mt mX12_asks [.ref 82, .int (nI l), .int b, .int (nI m), .int (nI 0)] g1 (ab_qi fun w h2 => -1 = w ∧ Inv TXm (CCg KX RX WX) (CMg SX) n h2) := by
      intro g1 s1 q1 o
      refine mod g1 q1 s1 _ (fun g2 f2 b2 => ?_)
      have done : (ab_qi fun w h2 => -1 = w ∧ Inv TXm (CCg KX RX WX) (CMg SX) n h2) (some (.int (-1))) g2 := ⟨_, rfl, rfl, fin g1 g2 g2 q1 f2 b2 (knF_r f2.1) b2⟩
      (first | refine ⟨fun _ => ?_, fun n_ => absurd (show ¬ nI 0 = 1 by decide) n_⟩ | refine ⟨fun n_ => absurd (show ¬ nI 0 = 1 by decide) n_, fun _ => ?_⟩ | refine ⟨fun y_ => absurd y_ (show ¬ nI 0 = 1 by decide), fun _ => ?_⟩ | refine ⟨fun _ => ?_, fun y_ => absurd y_ (show ¬ nI 0 = 1 by decide)⟩)
      (first | refine ⟨fun _ => ?_, fun n_ => absurd (show ¬ nI 0 = 2 by decide) n_⟩ | refine ⟨fun n_ => absurd (show ¬ nI 0 = 2 by decide) n_, fun _ => ?_⟩ | refine ⟨fun y_ => absurd y_ (show ¬ nI 0 = 2 by decide), fun _ => ?_⟩ | refine ⟨fun _ => ?_, fun y_ => absurd y_ (show ¬ nI 0 = 2 by decide)⟩)
      have e84 : ah_i g2 84 246 = nI (A 246) := b2.2.2.2.1.2.2.2.2.2.1
      by_cases z : 0 ≤ b ∧ b < nI (A 246)
      · obtain ⟨k, hk, ek⟩ := q_hasn (n := A 246) (by omega) z
        have eb : b = nI l := o.resolve_left (fun y => y z)
        rw [eb]
        (first | refine ⟨fun _ => ?_, fun n_ => absurd (isLamp_t e84 h10 hl) n_⟩ | refine ⟨fun n_ => absurd (isLamp_t e84 h10 hl) n_, fun _ => ?_⟩ | refine ⟨fun y_ => absurd y_ (isLamp_t e84 h10 hl), fun _ => ?_⟩ | refine ⟨fun _ => ?_, fun y_ => absurd y_ (isLamp_t e84 h10 hl)⟩)
        (first | refine ⟨fun _ => ?_, fun n_ => absurd (show nI l = nI l from rfl) n_⟩ | refine ⟨fun n_ => absurd (show nI l = nI l from rfl) n_, fun _ => ?_⟩ | refine ⟨fun y_ => absurd y_ (show nI l = nI l from rfl), fun _ => ?_⟩ | refine ⟨fun _ => ?_, fun y_ => absurd y_ (show nI l = nI l from rfl)⟩)
        exact done
      · (first | refine ⟨fun _ => ?_, fun n_ => absurd (isLamp_f e84 h10 z) n_⟩ | refine ⟨fun n_ => absurd (isLamp_f e84 h10 z) n_, fun _ => ?_⟩ | refine ⟨fun y_ => absurd y_ (isLamp_f e84 h10 z), fun _ => ?_⟩ | refine ⟨fun _ => ?_, fun y_ => absurd y_ (isLamp_f e84 h10 z)⟩)
        exact done
    refine c_has3 f1.1 (by omega) e3 (by omega) (fun k hk ek => ⟨_, rfl, f1.1, ?_⟩) (fun c0 => ⟨_, rfl, f1.1, ?_⟩)
    rotate_left
    · (first | refine ⟨fun _ => ?_, fun n_ => absurd (show (0 : Int32) = 0 from rfl) n_⟩ | refine ⟨fun n_ => absurd (show (0 : Int32) = 0 from rfl) n_, fun _ => ?_⟩ | refine ⟨fun y_ => absurd y_ (show (0 : Int32) = 0 from rfl), fun _ => ?_⟩ | refine ⟨fun _ => ?_, fun y_ => absurd y_ (show (0 : Int32) = 0 from rfl)⟩)
      exact ⟨_, rfl, f1.1, nb h1 f1.1 p1 (.inl c0)⟩
    (first | refine ⟨fun _ => ?_, fun n_ => absurd (show ¬ (1 : Int32) = 0 by decide) n_⟩ | refine ⟨fun n_ => absurd (show ¬ (1 : Int32) = 0 by decide) n_, fun _ => ?_⟩ | refine ⟨fun y_ => absurd y_ (show ¬ (1 : Int32) = 0 by decide), fun _ => ?_⟩ | refine ⟨fun _ => ?_, fun y_ => absurd y_ (show ¬ (1 : Int32) = 0 by decide)⟩)
    by_cases ekl : b = nI l
    · (first | refine ⟨fun _ => ?_, fun n_ => absurd (ekl) n_⟩ | refine ⟨fun n_ => absurd (ekl) n_, fun _ => ?_⟩ | refine ⟨fun y_ => absurd y_ (ekl), fun _ => ?_⟩ | refine ⟨fun _ => ?_, fun y_ => absurd y_ (ekl)⟩)
      exact ⟨_, rfl, f1.1, nb h1 f1.1 p1 (.inr ekl)⟩
    (first | refine ⟨fun _ => ?_, fun n_ => absurd (ekl) n_⟩ | refine ⟨fun n_ => absurd (ekl) n_, fun _ => ?_⟩ | refine ⟨fun y_ => absurd y_ (ekl), fun _ => ?_⟩ | refine ⟨fun _ => ?_, fun y_ => absurd y_ (ekl)⟩)
    subst ek
    have hkl : k ≠ l := fun y => ekl (by rw [y])
    obtain ⟨v1, v2, _⟩ := wf.2.1.2 k hk
    refine lm_get f1.1 lm rfl (k := 0) rfl hl (by omega) ⟨_, rfl, f1.1, ?_⟩
    refine lm_get f1.1 lm rfl (k := 0) rfl hk (by omega) ⟨_, rfl, f1.1, ?_⟩
    rw [Nat.add_zero, Nat.add_zero, f_sight u1 v1]
    refine ⟨v_sight f1.1 u1 v1, ?_⟩
    refine lm_get f1.1 lm rfl (k := 1) rfl hk (by omega) ⟨_, rfl, f1.1, ?_⟩
    rw [show 60 + 3 * k + 1 = 61 + 3 * k by omega]
    have dd := tm.2.2.2.2.1 _ _ u1 v1
    obtain ⟨s1, s2, s3⟩ := sgv_in dd
    -- the end of both
    have both : ∀ (g1 : ah_T) (la : Nat), la = (if l ≤ k then 0 else 1) → Sh g1 → preQ KX RX WX SX n A g1 → Mt mX12_asks [.ref 82, .int (nI l), .int (nI k), .int (nI m), .int (nI 0)] g1 (ab_qi fun w h2 => nI (ansA (lawL A) 0 (wQ l (A (61 + 3 * l)) (A (61 + 3 * k)) (sgv A (A (60 + 3 * l)) (A (60 + 3 * k))) la m (A 242) (A 244))) = w ∧ Inv TXm (CCg KX RX WX) (CMg SX) n h2) := by
      intro g1 la ela s1 q1
      refine mod g1 q1 s1 _ (fun g2 f2 b2 => ?_)
      (first | refine ⟨fun _ => ?_, fun n_ => absurd (show ¬ nI 0 = 1 by decide) n_⟩ | refine ⟨fun n_ => absurd (show ¬ nI 0 = 1 by decide) n_, fun _ => ?_⟩ | refine ⟨fun y_ => absurd y_ (show ¬ nI 0 = 1 by decide), fun _ => ?_⟩ | refine ⟨fun _ => ?_, fun y_ => absurd y_ (show ¬ nI 0 = 1 by decide)⟩)
      (first | refine ⟨fun _ => ?_, fun n_ => absurd (show ¬ nI 0 = 2 by decide) n_⟩ | refine ⟨fun n_ => absurd (show ¬ nI 0 = 2 by decide) n_, fun _ => ?_⟩ | refine ⟨fun y_ => absurd y_ (show ¬ nI 0 = 2 by decide), fun _ => ?_⟩ | refine ⟨fun _ => ?_, fun y_ => absurd y_ (show ¬ nI 0 = 2 by decide)⟩)
      have e84 : ah_i g2 84 246 = nI (A 246) := b2.2.2.2.1.2.2.2.2.2.1
      (first | refine ⟨fun _ => ?_, fun n_ => absurd (isLamp_t e84 h10 hk) n_⟩ | refine ⟨fun n_ => absurd (isLamp_t e84 h10 hk) n_, fun _ => ?_⟩ | refine ⟨fun y_ => absurd y_ (isLamp_t e84 h10 hk), fun _ => ?_⟩ | refine ⟨fun _ => ?_, fun y_ => absurd y_ (isLamp_t e84 h10 hk)⟩)
      (first | refine ⟨fun _ => ?_, fun n_ => absurd (ekl) n_⟩ | refine ⟨fun n_ => absurd (ekl) n_, fun _ => ?_⟩ | refine ⟨fun y_ => absurd y_ (ekl), fun _ => ?_⟩ | refine ⟨fun _ => ?_, fun y_ => absurd y_ (ekl)⟩)
      obtain ⟨x1, x2⟩ := b2.2.2.1.2.2.2.2.1 l hl
      obtain ⟨x3, x4⟩ := b2.2.2.1.2.2.2.2.1 k hk
      have d7 := b2.2.2.1.2.2.2.2.2.2 _ _ u1 v1
      obtain ⟨y1, y2, y3⟩ := sgN_d d7
      have x1' : ah_i g2 100 l = nI (A (60 + 3 * l)) := x1
      have x2' : ah_i g2 101 l = nI (A (61 + 3 * l)) := x2
      have x3' : ah_i g2 100 k = nI (A (60 + 3 * k)) := x3
      have x4' : ah_i g2 101 k = nI (A (61 + 3 * k)) := x4
      have c12 : (12 : Int32) * nI (A (60 + 3 * l)) + nI (A (60 + 3 * k)) = nI (12 * A (60 + 3 * l) + A (60 + 3 * k)) := by rw [n_12, nI_mul, nI_add]
      rw [nI_clamp (show l < 2 ^ 31 by omega), nI_clamp (show k < 2 ^ 31 by omega), x1', x2', x3', x4', c12, nI_clamp (show 12 * A (60 + 3 * l) + A (60 + 3 * k) < 2 ^ 31 by omega), y1, n101 f2.1, n100 f2.1, sh_n f2.1 99 144 (by decide) (by decide) rfl]
      have vk : vp_in (nI k) 10 := (vp_nI (by omega)).mpr (by omega)
      refine ⟨vl, vk, vl, vk, (vp_nI (by omega)).mpr (by omega), ?_⟩
      have si := shS_iff (l := l) (k := A (61 + 3 * l)) (o := A (61 + 3 * k)) (la := la) (mi := m) dd
      have ends : ∀ g3 v, knF g2 g3 → mKw A g3 → v = bI (shS9 A l (A (61 + 3 * l)) (A (61 + 3 * k)) (sgN A (A (60 + 3 * l)) (A (60 + 3 * k))) la m) → ((v = 0 → (ab_qi fun w h2 => nI (ansA (lawL A) 0 (wQ l (A (61 + 3 * l)) (A (61 + 3 * k)) (sgv A (A (60 + 3 * l)) (A (60 + 3 * k))) la m (A 242) (A 244))) = w ∧ Inv TXm (CCg KX RX WX) (CMg SX) n h2) (some (.int 0)) g3) ∧ (¬ v = 0 → (ab_qi fun w h2 => nI (ansA (lawL A) 0 (wQ l (A (61 + 3 * l)) (A (61 + 3 * k)) (sgv A (A (60 + 3 * l)) (A (60 + 3 * k))) la m (A 242) (A 244))) = w ∧ Inv TXm (CCg KX RX WX) (CMg SX) n h2) (some (.int 1)) g3)) := by
        intro g3 v f3 k3 ev
        subst ev
        rw [bI_0]
        have iv := fin g1 g2 g3 q1 f2 b2 f3 (mBa_k f3 k3 b2)
        refine ⟨fun z => ⟨_, rfl, ?_, iv⟩, fun z => ⟨_, rfl, ?_, iv⟩⟩
        · rcases ansA0 (lawL A) (wQ l (A (61 + 3 * l)) (A (61 + 3 * k)) (sgv A (A (60 + 3 * l)) (A (60 + 3 * k))) la m (A 242) (A 244)) with y | y
          · rw [y]; rfl
          · rw [si.mp y] at z; exact absurd z (by decide)
        · have zt : shS9 A l (A (61 + 3 * l)) (A (61 + 3 * k)) (sgN A (A (60 + 3 * l)) (A (60 + 3 * k))) la m = true := by cases e : shS9 A l (A (61 + 3 * l)) (A (61 + 3 * k)) (sgN A (A (60 + 3 * l)) (A (60 + 3 * k))) la m; exact absurd e z; rfl
          rw [si.mpr zt]; rfl
      by_cases lk2 : l ≤ k
      · (first | refine ⟨fun _ => ?_, fun n_ => absurd (show nI l ≤ nI k from nI_le lk2 (by omega)) n_⟩ | refine ⟨fun n_ => absurd (show nI l ≤ nI k from nI_le lk2 (by omega)) n_, fun _ => ?_⟩ | refine ⟨fun y_ => absurd y_ (show nI l ≤ nI k from nI_le lk2 (by omega)), fun _ => ?_⟩ | refine ⟨fun _ => ?_, fun y_ => absurd y_ (show nI l ≤ nI k from nI_le lk2 (by omega))⟩)
        rw [if_pos lk2] at ela
        subst ela
        exact mt_shuns f2.1 b2.1 b2.2.1 (la := 0) (by omega) u2 v2 y2 (by omega) hm rfl rfl rfl rfl rfl rfl (fun g3 f3 k3 => ⟨_, rfl, f3.1, ends g3 _ f3 k3 rfl⟩)
      · (first | refine ⟨fun _ => ?_, fun n_ => absurd (show ¬ nI l ≤ nI k from nI_ge (by omega) (by omega)) n_⟩ | refine ⟨fun n_ => absurd (show ¬ nI l ≤ nI k from nI_ge (by omega) (by omega)) n_, fun _ => ?_⟩ | refine ⟨fun y_ => absurd y_ (show ¬ nI l ≤ nI k from nI_ge (by omega) (by omega)), fun _ => ?_⟩ | refine ⟨fun _ => ?_, fun y_ => absurd y_ (show ¬ nI l ≤ nI k from nI_ge (by omega) (by omega))⟩)
        rw [if_neg lk2] at ela
        subst ela
        exact mt_shuns f2.1 b2.1 b2.2.1 (la := 1) (by omega) u2 v2 y2 (by omega) hm rfl rfl rfl rfl rfl rfl (fun g3 f3 k3 => ⟨_, rfl, f3.1, ends g3 _ f3 k3 rfl⟩)
    have pre2 : ∀ g1, akF h1 g1 → tpO (lawL A) (A 242) (A 244) g' g1 → preQ KX RX WX SX n A g1 := fun g1 fa tp => preQ_lk hS p hG (loF_t f1 (loF_ch (chF_m (tmF_ak fa)))) hg' (lkO_ak (tp := True) X fa tp lk)
    by_cases lk2 : l ≤ k
    · (first | refine ⟨fun _ => ?_, fun n_ => absurd (show nI l ≤ nI k from nI_le lk2 (by omega)) n_⟩ | refine ⟨fun n_ => absurd (show nI l ≤ nI k from nI_le lk2 (by omega)) n_, fun _ => ?_⟩ | refine ⟨fun y_ => absurd y_ (show nI l ≤ nI k from nI_le lk2 (by omega)), fun _ => ?_⟩ | refine ⟨fun _ => ?_, fun y_ => absurd y_ (show nI l ≤ nI k from nI_le lk2 (by omega))⟩)
      refine c_ask f1.1 tm.1 tm.2.1 tm.2.2.1 (what := 0) (w := wQ l (A (61 + 3 * l)) (A (61 + 3 * k)) (sgv A (A (60 + 3 * l)) (A (60 + 3 * k))) ((0 : Nat) : Int) m (A 242) (A 244)) rfl (by omega) (nI_toInt (by omega)) (nI_toInt (by omega)) (nI_toInt (by omega)) s1 rfl (nI_toInt (by omega)) rfl rfl (wQ_rg ⟨by omega, by omega⟩ ⟨by omega, by omega⟩ ⟨by omega, by omega⟩ ⟨by omega, by omega⟩ ⟨by omega, by omega⟩ ⟨by omega, by omega⟩) (fun g1 fa tp => ⟨_, rfl, fa.1, ?_⟩)
      exact ⟨_, rfl, fa.1, both g1 0 (if_pos lk2).symm fa.1 (pre2 g1 fa tp)⟩
    · (first | refine ⟨fun _ => ?_, fun n_ => absurd (show ¬ nI l ≤ nI k from nI_ge (by omega) (by omega)) n_⟩ | refine ⟨fun n_ => absurd (show ¬ nI l ≤ nI k from nI_ge (by omega) (by omega)) n_, fun _ => ?_⟩ | refine ⟨fun y_ => absurd y_ (show ¬ nI l ≤ nI k from nI_ge (by omega) (by omega)), fun _ => ?_⟩ | refine ⟨fun _ => ?_, fun y_ => absurd y_ (show ¬ nI l ≤ nI k from nI_ge (by omega) (by omega))⟩)
      refine c_ask f1.1 tm.1 tm.2.1 tm.2.2.1 (what := 0) (w := wQ l (A (61 + 3 * l)) (A (61 + 3 * k)) (sgv A (A (60 + 3 * l)) (A (60 + 3 * k))) ((1 : Nat) : Int) m (A 242) (A 244)) rfl (by omega) (nI_toInt (by omega)) (nI_toInt (by omega)) (nI_toInt (by omega)) s1 rfl (nI_toInt (by omega)) rfl rfl (wQ_rg ⟨by omega, by omega⟩ ⟨by omega, by omega⟩ ⟨by omega, by omega⟩ ⟨by omega, by omega⟩ ⟨by omega, by omega⟩ ⟨by omega, by omega⟩) (fun g1 fa tp => ⟨_, rfl, fa.1, ?_⟩)
      exact ⟨_, rfl, fa.1, both g1 1 (if_neg lk2).symm fa.1 (pre2 g1 fa tp)⟩
  · (first | refine ⟨fun _ => ?_, fun n_ => absurd (show ¬ nI 1 = 0 by decide) n_⟩ | refine ⟨fun n_ => absurd (show ¬ nI 1 = 0 by decide) n_, fun _ => ?_⟩ | refine ⟨fun y_ => absurd y_ (show ¬ nI 1 = 0 by decide), fun _ => ?_⟩ | refine ⟨fun _ => ?_, fun y_ => absurd y_ (show ¬ nI 1 = 0 by decide)⟩)
    refine c_ask f1.1 tm.1 tm.2.1 tm.2.2.1 (what := 1) (w := wQ l (A (61 + 3 * l)) (-1) (-1) (-1) m (A 242) (A 244)) rfl (by omega) (nI_toInt (by omega)) (nI_toInt (by omega)) rfl rfl rfl (nI_toInt (by omega)) rfl rfl (wQ_rg ⟨by omega, by omega⟩ ⟨by omega, by omega⟩ ⟨by omega, by omega⟩ ⟨by omega, by omega⟩ ⟨by omega, by omega⟩ ⟨by omega, by omega⟩) (fun g1 fa tp => ⟨_, rfl, fa.1, ⟨_, rfl, fa.1, ?_⟩⟩)
    have q1 := preQ_lk hS p hG (loF_t f1 (loF_ch (chF_m (tmF_ak fa)))) hg' (lkO_ak (tp := True) X fa tp lk)
    refine mod g1 q1 fa.1 _ (fun g2 f2 b2 => ?_)
    (first | refine ⟨fun _ => ?_, fun n_ => absurd (show nI 1 = 1 from rfl) n_⟩ | refine ⟨fun n_ => absurd (show nI 1 = 1 from rfl) n_, fun _ => ?_⟩ | refine ⟨fun y_ => absurd y_ (show nI 1 = 1 from rfl), fun _ => ?_⟩ | refine ⟨fun _ => ?_, fun y_ => absurd y_ (show nI 1 = 1 from rfl)⟩)
    have x2' : ah_i g2 101 l = nI (A (61 + 3 * l)) := (b2.2.2.1.2.2.2.2.1 l hl).2
    rw [nI_clamp (show l < 2 ^ 31 by omega), x2', n101 f2.1]
    refine ⟨vl, mt_reach f2.1 b2.1 b2.2.1 (l := l + 1) (by omega) u2 hm (nO_s l).symm rfl rfl (fun g3 f3 k3 => ⟨_, rfl, f3.1, _, rfl, ?_, fin g1 g2 g3 q1 f2 b2 f3 (mBa_k f3 k3 b2)⟩)⟩
    unfold ansA rchA
    rw [if_neg (by decide), show (((l + 1 : Nat) : Int) - 1) = (l : Int) by omega]
  · (first | refine ⟨fun _ => ?_, fun n_ => absurd (show ¬ nI 2 = 0 by decide) n_⟩ | refine ⟨fun n_ => absurd (show ¬ nI 2 = 0 by decide) n_, fun _ => ?_⟩ | refine ⟨fun y_ => absurd y_ (show ¬ nI 2 = 0 by decide), fun _ => ?_⟩ | refine ⟨fun _ => ?_, fun y_ => absurd y_ (show ¬ nI 2 = 0 by decide)⟩)
    refine c_ask f1.1 tm.1 tm.2.1 tm.2.2.1 (what := 2) (w := wQ l (A (61 + 3 * l)) (-1) (-1) (-1) m (A 242) (A 244)) rfl (by omega) (nI_toInt (by omega)) (nI_toInt (by omega)) rfl rfl rfl (nI_toInt (by omega)) rfl rfl (wQ_rg ⟨by omega, by omega⟩ ⟨by omega, by omega⟩ ⟨by omega, by omega⟩ ⟨by omega, by omega⟩ ⟨by omega, by omega⟩ ⟨by omega, by omega⟩) (fun g1 fa tp => ⟨_, rfl, fa.1, ⟨_, rfl, fa.1, ?_⟩⟩)
    have q1 := preQ_lk hS p hG (loF_t f1 (loF_ch (chF_m (tmF_ak fa)))) hg' (lkO_ak (tp := True) X fa tp lk)
    refine mod g1 q1 fa.1 _ (fun g2 f2 b2 => ?_)
    (first | refine ⟨fun _ => ?_, fun n_ => absurd (show ¬ nI 2 = 1 by decide) n_⟩ | refine ⟨fun n_ => absurd (show ¬ nI 2 = 1 by decide) n_, fun _ => ?_⟩ | refine ⟨fun y_ => absurd y_ (show ¬ nI 2 = 1 by decide), fun _ => ?_⟩ | refine ⟨fun _ => ?_, fun y_ => absurd y_ (show ¬ nI 2 = 1 by decide)⟩)
    (first | refine ⟨fun _ => ?_, fun n_ => absurd (show nI 2 = 2 from rfl) n_⟩ | refine ⟨fun n_ => absurd (show nI 2 = 2 from rfl) n_, fun _ => ?_⟩ | refine ⟨fun y_ => absurd y_ (show nI 2 = 2 from rfl), fun _ => ?_⟩ | refine ⟨fun _ => ?_, fun y_ => absurd y_ (show nI 2 = 2 from rfl)⟩)
    have x2' : ah_i g2 101 l = nI (A (61 + 3 * l)) := (b2.2.2.1.2.2.2.2.1 l hl).2
    rw [nI_clamp (show l < 2 ^ 31 by omega), x2', n101 f2.1]
    refine ⟨vl, mt_drink f2.1 b2.1 b2.2.1 (by omega) u2 hm rfl rfl rfl (fun g3 f3 k3 => ⟨_, rfl, f3.1, _, rfl, ?_, fin g1 g2 g3 q1 f2 b2 f3 (mBa_k f3 k3 b2)⟩)⟩
    unfold ansA drkA
    rw [if_neg (by decide)]
end FA
