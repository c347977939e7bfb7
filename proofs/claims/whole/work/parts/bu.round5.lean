/-! ===== rounds: the class lays a row, finds a round ===== -/
def rdR (A : Nat → Nat) (c : Nat) (h : ah_T) : Prop := (alR A (A 246) (coL A) c ∧ ah_i h 29 2 = nI (rG A (A 246) (coL A) (2 ^ A 246 - 1) c) ∧ ∀ k, k < A 246 → ah_i h 32 k = nI (rRow A (A 246) (coL A) c k)) ∨ (¬ alR A (A 246) (coL A) c ∧ ah_i h 29 2 = -1)
def rdQ (A : Nat → Nat) (h : ah_T) : Prop := ah_i h 29 13 = -1 ∨ ∃ c, c < 12 ∧ ah_i h 29 13 = nI c ∧ rdR A c h
def coX (A : Nat → Nat) (h : ah_T) : Prop := ah_i h 29 12 = 0 ∨ (ah_i h 29 12 = 1 ∧ ∃ k st of b, stG A k st of h ∧ ah_r h 29 11 = some b ∧ coO A k st b h)
/-- cells off the round's are as they were; b is its own row of costs -/
def rdF (b : Nat) (h g : ah_T) : Prop := Sh g ∧ ah_x h ≤ ah_x g ∧ 123 ≤ b ∧ (b < ah_x h → ah_k h b = 14 ∧ ah_n h b = 10240) ∧ (∀ a, a < ah_x h → a ≠ 29 → a ≠ 32 → a ≠ 36 → a ≠ 37 → a ≠ b → eqc h g a) ∧ ∀ a, a < ah_x h → ah_k g a = ah_k h a
section RE
variable {A st of : Nat → Nat} {h g : ah_T} {k a b s m x y c n : Nat}
theorem rSt_at (A : Nat → Nat) (n : Nat) (co : Nat → Nat) (c : Nat) : ∀ p, (rSt A n co c p).2 = c ∨ ∃ q, q < p ∧ (rSt A n co c p).2 = co (rRow A n co c q)
  | 0 => .inl rfl
  | p + 1 => .inr ⟨p, by omega, rfl⟩
theorem at_fin (wl : wfL A) (r : alR A (A 246) (coL A) c) (hc : c < 12) {p l : Nat} (hp : p ≤ A 246) (hl : l < A 246) : (rSt A (A 246) (coL A) c p).2 < 12 ∧ dS A (rSt A (A 246) (coL A) c p).2 (coL A l) < 1000000 := by
  rcases rSt_at A (A 246) (coL A) c p with e | ⟨q, hq, e⟩
  · rw [e]
    have := r l hl
    exact ⟨hc, by omega⟩
  · obtain ⟨_, _, _, i4⟩ := rS_in (co_wl wl) (rv_fin (co_wl wl) r) q (by omega)
    obtain ⟨_, ⟨l1, _⟩, _⟩ := i4 (by omega)
    rw [e]
    have := co_22 (co := coL A) r l1 hl
    exact ⟨(wl.2 _ l1).1, by show dS A (coL A _) (coL A l) < 1000000; omega⟩
theorem c_layRow {Q : Option Value → ah_T → Prop} {x1 : Int32} (hs : Sh h) (sp : spO A h) (lm : lmO A h) (sg : stG A k st of h) (rb : ah_r h 29 11 = some b) (kb : ah_k h b = 14) (nbb : ah_n h b = 10240) (hb : 123 ≤ b) (cs : coO A k st b h) (hc : c < 12) (e1 : x1 = nI c) (r : alR A (A 246) (coL A) c) (e2 : ah_i h 29 2 = nI (rG A (A 246) (coL A) (2 ^ A 246 - 1) c)) (hq : ∀ g, Sh g → ah_x g = ah_x h → (∀ a, a ≠ 32 → eqc h g a) → (∀ k, k < A 246 → ah_i g 32 k = nI (rRow A (A 246) (coL A) c k)) → Q none g) : Mt mX6_layRow [.ref 29, .int x1] h Q := by
  subst e1
  have wl := lm.2.2.1
  have h10 := wl.1
  have hk : k ≤ 10 := by have := sg.2.1; omega
  have rin := rS_in (co_wl wl) (rv_fin (m := 2 ^ A 246 - 1) (co_wl wl) r)
  have p2n := p2_10 h10
  obtain ⟨S, eS⟩ : ∃ S, S = rSt A (A 246) (coL A) c := ⟨_, rfl⟩
  obtain ⟨R, eR⟩ : ∃ R, R = rRow A (A 246) (coL A) c := ⟨_, rfl⟩
  rw [← eR] at hq
  have l26 : ∀ (q p : Nat) (u : ah_T), p + q = A 246 → Sh u → ah_x u = ah_x h → (∀ a, a ≠ 32 → eqc h u a) → (∀ i, i < p → ah_i u 32 i = nI (R i)) → Wp mX6_layRow Q 0 0 26 [some (.ref 29), none, some (.int (nI (S p).2)), some (.int (nI (rG A (A 246) (coL A) (S p).1 (S p).2))), some (.int (nI (S p).1)), some (.int (nI p)), none, none, none] [] u := by
    intro q
    induction q with
    | zero =>
      intro p u hp su xu eu ro
      have e9 : p = A 246 := by omega
      subst e9
      refine T_X6_layRow_26 su _ _ _ _ ?_
      rw [(eu 4 (by decide)).1, lm.2.1]
      (first | refine ⟨fun _ => ?_, fun n_ => absurd (show nI (A 246) ≤ nI (A 246) from nI_le (Nat.le_refl _) (by omega)) n_⟩ | refine ⟨fun n_ => absurd (show nI (A 246) ≤ nI (A 246) from nI_le (Nat.le_refl _) (by omega)) n_, fun _ => ?_⟩ | refine ⟨fun y_ => absurd y_ (show nI (A 246) ≤ nI (A 246) from nI_le (Nat.le_refl _) (by omega)), fun _ => ?_⟩ | refine ⟨fun _ => ?_, fun y_ => absurd y_ (show nI (A 246) ≤ nI (A 246) from nI_le (Nat.le_refl _) (by omega))⟩)
      exact hq u su xu eu ro
    | succ q ih =>
      intro p u hp su xu eu ro
      have hpn : p < A 246 := by omega
      obtain ⟨i1, i2, i3, i4⟩ := rin p (by omega)
      obtain ⟨l1, ⟨l2, l3, l4⟩, l5⟩ := i4 hpn
      rw [← eS] at i1 i3 l3 l4 l5
      rw [← eR] at l1 l2 l3 l4 l5
      have lmu : lmO A u := lmO_fr (eu 4 (by decide)).1 (eu 5 (by decide)).1 lm
      have spu : spO A u := fun x y hx hy => by rw [(eu 33 (by decide)).1]; exact sp x y hx hy
      have u10 : ah_i u 29 10 = nI k := by rw [(eu 29 (by decide)).1]; exact sg.1
      have u36 : ∀ t, t < k → ah_i u 36 t = nI (st t) ∧ st t < 12 := fun t ht => by rw [(eu 36 (by decide)).1]; exact st_12 wl sg t ht
      have u37 : ∀ l, l < A 246 → ah_i u 37 l = nI (of l) ∧ of l < k := fun l hl => by rw [(eu 37 (by decide)).1]; exact ⟨(sg.2.2.2 l hl).1, (sg.2.2.2 l hl).2.1⟩
      have urb : ah_r u 29 11 = some b := by rw [(eu 29 (by decide)).2.2.1]; exact rb
      have ukb : ah_k u b = 14 := by rw [(eu b (by omega)).2.2.2.1]; exact kb
      have unb : ah_n u b = 10240 := by rw [(eu b (by omega)).2.2.2.2]; exact nbb
      have ucs : ∀ s t, s < 2 ^ k → t < k → ah_i u b (s * 10 + t) = nI (rG A k st s (st t)) := fun s t h1 h2 => by rw [(eu b (by omega)).1]; exact cs s t h1 h2
      refine T_X6_layRow_26 su _ _ _ _ ?_
      rw [lmu.2.1]
      (first | refine ⟨fun _ => ?_, fun n_ => absurd (show ¬ nI (A 246) ≤ nI p from nI_ge hpn (by omega)) n_⟩ | refine ⟨fun n_ => absurd (show ¬ nI (A 246) ≤ nI p from nI_ge hpn (by omega)) n_, fun _ => ?_⟩ | refine ⟨fun y_ => absurd y_ (show ¬ nI (A 246) ≤ nI p from nI_ge hpn (by omega)), fun _ => ?_⟩ | refine ⟨fun _ => ?_, fun y_ => absurd y_ (show ¬ nI (A 246) ≤ nI p from nI_ge hpn (by omega))⟩)
      have l44 : ∀ (q2 l : Nat), l + q2 = R p → Wp mX6_layRow Q 0 0 44 [some (.ref 29), none, some (.int (nI (S p).2)), some (.int (nI (rG A (A 246) (coL A) (S p).1 (S p).2))), some (.int (nI (S p).1)), some (.int (nI p)), some (.int (nI l)), none, none] [] u := by
        have body : ∀ l, l < A 246 → ((S p).1.testBit l = true → dS A (S p).2 (coL A l) + rG A (A 246) (coL A) ((S p).1 ^^^ 2 ^ l) (coL A l) = rG A (A 246) (coL A) (S p).1 (S p).2 → l = R p) → (¬ l = R p → Wp mX6_layRow Q 0 0 44 [some (.ref 29), none, some (.int (nI (S p).2)), some (.int (nI (rG A (A 246) (coL A) (S p).1 (S p).2))), some (.int (nI (S p).1)), some (.int (nI p)), some (.int (nI (l + 1))), none, none] [] u) → Wp mX6_layRow Q 0 0 44 [some (.ref 29), none, some (.int (nI (S p).2)), some (.int (nI (rG A (A 246) (coL A) (S p).1 (S p).2))), some (.int (nI (S p).1)), some (.int (nI p)), some (.int (nI l)), none, none] [] u := by
          intro l hl yes nx
          have af := at_fin wl r hc (p := p) (l := l) (by omega) hl
          rw [← eS] at af
          obtain ⟨af1, af2⟩ := af
          have cl12 : coL A l < 12 := (wl.2 l hl).1
          obtain ⟨f1, f2⟩ := c_stepsN spu af1 cl12 af2
          have r1 := rv_le A (A 246) (coL A) ((S p).1 ^^^ 2 ^ l) (coL A l)
          have r2 := rv_le A (A 246) (coL A) (S p).1 (S p).2
          have a1 : nI (S p).2 * 12 + nI (coL A l) = nI ((S p).2 * 12 + coL A l) := by rw [n_12, nI_mul, nI_add]
          refine T_X6_layRow_44 su _ _ _ _ _ ?_
          rw [lmu.2.1]
          (first | refine ⟨fun _ => ?_, fun n_ => absurd (show ¬ nI (A 246) ≤ nI l from nI_ge hl (by omega)) n_⟩ | refine ⟨fun n_ => absurd (show ¬ nI (A 246) ≤ nI l from nI_ge hl (by omega)) n_, fun _ => ?_⟩ | refine ⟨fun y_ => absurd y_ (show ¬ nI (A 246) ≤ nI l from nI_ge hl (by omega)), fun _ => ?_⟩ | refine ⟨fun _ => ?_, fun y_ => absurd y_ (show ¬ nI (A 246) ≤ nI l from nI_ge hl (by omega))⟩)
          refine c_getC su lmu hl rfl ⟨_, rfl, su, ?_⟩
          rw [a1, sh_n su 33 144 (by decide) (by decide) rfl, b_bit _ l (by omega), nb (by omega), nI_1, f1]
          refine ⟨fun _ _ => (vp_nI (by omega)).mpr (by omega), fun z => nx (fun w => ?_), fun z => ?_⟩
          · rw [w, l3] at z; exact absurd z (by decide)
          have zt : (S p).1.testBit l = true := by cases w : (S p).1.testBit l; exact absurd w z; rfl
          rw [nI_1sh (by omega), nI_xor]
          refine c_stopsOf su lmu.2.1 h10 hk u37 rfl (fun rr hr br => ⟨_, rfl, su, ?_⟩)
          refine c_rest su spu u10 hk u36 urb ukb unb hr cl12 rfl rfl (fun t ht _ => ucs _ t (Nat.xor_lt_two_pow hr (Nat.pow_lt_pow_right (by decide) ht)) ht) (fun t ht => ?_) ⟨_, rfl, su, ?_⟩
          · obtain ⟨_, l', q1, q2⟩ := sg.2.2.1 t ht
            rw [q2]
            have := co_22 (co := coL A) r hl q1
            exact Nat.lt_of_le_of_lt this (by decide)
          have er : rG A k st rr (coL A l) = rG A (A 246) (coL A) ((S p).1 ^^^ 2 ^ l) (coL A l) := rG_stops sg br
          rw [er, nI_add, nI_eq (show dS A (S p).2 (coL A l) + rG A (A 246) (coL A) ((S p).1 ^^^ 2 ^ l) (coL A l) < 2 ^ 31 by omega) (show rG A (A 246) (coL A) (S p).1 (S p).2 < 2 ^ 31 by omega), sh_n su 32 10 (by decide) (by decide) rfl, nI_clamp (show p < 2 ^ 31 by omega)]
          refine ⟨fun w => nx (fun w2 => w ?_), fun w => ⟨(vp_nI (by omega)).mpr (by omega), ?_⟩⟩
          · rw [w2]; exact l4
          · have el := yes zt w
            rintro h16 rfl
            have es : S (p + 1) = ((S p).1 ^^^ 2 ^ l, coL A l) := by rw [eS, rS_s, ← eS, ← eR, ← el]
            have g := ih (p + 1) (ah_si u 32 p (nI l)) (by omega) (sh_si su) (by rw [ah_x_si]; exact xu) (fun a n1 => eqc_si (eu a n1) n1) (fun i hi => ?_)
            · rw [es] at g
              rw [← w, nI_sub (by omega), Nat.add_sub_cancel_left, nI_1]
              exact g
            · by_cases y : i = p
              · rw [y, ah_i_ss, el]
              · rw [ah_i_sn (fun q => y q.2)]; exact ro i (by omega)
        intro q2
        induction q2 with
        | zero =>
          intro l hl2
          have e9 : l = R p := by omega
          subst e9
          exact body (R p) l2 (fun _ _ => rfl) (fun y => absurd rfl y)
        | succ q2 ih2 =>
          intro l hl2
          exact body l (by omega) (fun y1 y2 => absurd ⟨by omega, y1, y2⟩ (l5 l (by omega))) (fun _ => ih2 (l + 1) (by omega))
      exact l44 (R p) 0 (by omega)
  refine T_X6_layRow hs _ ?_
  rw [lm.2.1, nI_full (by omega), e2]
  have := l26 (A 246) 0 h (by omega) hs rfl (fun _ _ => eqc_rfl) (fun i hi => absurd hi (by omega))
  rw [eS] at this
  exact this
theorem c_findRound {Q : Option Value → ah_T → Prop} {x1 : Int32} (hs : Sh h) (sp : spO A h) (lm : lmO A h) (kx : kxR h) (cx : coX A h) (ro : rdQ A h) (hc : c < 12) (e1 : x1 = nI c) (hq : ∀ g b, rdF b h g → kxR g → coX A g → ah_i g 29 13 = nI c → rdR A c g → Q none g) : Mt mX6_findRound [.ref 29, .int x1] h Q := by
  subst e1
  have wl := lm.2.2.1
  have h10 := wl.1
  have x123 := hs.2.2
  have oth : ∃ b, rdF b h h := by
    cases e : ah_r h 29 11 with
    | none => exact ⟨ah_x h, hs, Nat.le_refl _, x123, fun y => absurd y (by omega), fun _ _ _ _ _ _ _ => eqc_rfl, fun _ _ => rfl⟩
    | some b =>
      obtain ⟨k1, k2, k3, k4⟩ := kx b e
      exact ⟨b, hs, Nat.le_refl _, k1, fun _ => ⟨k3, k4⟩, fun _ _ _ _ _ _ _ => eqc_rfl, fun _ _ => rfl⟩
  refine T_X6_findRound hs _ ⟨fun y => ?_, fun y => ?_⟩
  rotate_left
  · obtain ⟨b, f⟩ := oth
    refine hq h b f kx cx y ?_
    rcases ro with z | ⟨c', z1, z2, z3⟩
    · rw [z] at y; exact absurd y.symm (nI_m1 (by omega))
    · rw [z2, nI_eq (by omega) (by omega)] at y
      rw [← y]; exact z3
  rintro h2 q2 h5 q5
  have s5 : Sh h5 := by rw [q5, q2]; exact sh_si (sh_si hs)
  have e5 : ∀ a, a ≠ 29 → eqc h h5 a := fun a n => by rw [q5, q2]; exact eqc_si (eqc_si eqc_rfl n) n
  have x5 : ah_x h5 = ah_x h := by rw [q5, q2, ah_x_si, ah_x_si]
  have k5 : ∀ a, ah_k h5 a = ah_k h a ∧ ah_n h5 a = ah_n h a := fun a => by rw [q5, q2]; exact ⟨rfl, rfl⟩
  have r5 : ∀ a j, ah_r h5 a j = ah_r h a j := fun a j => by rw [q5, q2]; rfl
  have i5 : ∀ j, ah_i h5 29 j = if j = 2 then -1 else if j = 13 then nI c else ah_i h 29 j := fun j => by
    rw [q5, q2, ah_i_si, ah_i_si]; simp only [true_and]
  have lm5 : lmO A h5 := lmO_fr (e5 4 (by decide)).1 (e5 5 (by decide)).1 lm
  have sp5 : spO A h5 := fun x y hx hy => by rw [(e5 33 (by decide)).1]; exact sp x y hx hy
  have kx5 : kxR h5 := fun b e => by
    rw [r5] at e
    rw [(k5 b).1, (k5 b).2, x5]
    exact kx b e
  have cx5 : coX A h5 := by
    have e12 : ah_i h5 29 12 = ah_i h 29 12 := by rw [i5, if_neg (by decide), if_neg (by decide)]
    rcases cx with z | ⟨z, k, st, of, b, z1, z2, z3⟩
    · exact .inl (by rw [e12]; exact z)
    · have hb := (kx b z2).1
      exact .inr ⟨by rw [e12]; exact z, k, st, of, b, ⟨by rw [i5, if_neg (by decide), if_neg (by decide)]; exact z1.1, z1.2.1, fun t ht => by rw [(e5 36 (by decide)).1]; exact z1.2.2.1 t ht, fun l hl => by rw [(e5 37 (by decide)).1]; exact z1.2.2.2 l hl⟩, by rw [r5]; exact z2, fun s t h1 h2 => by rw [(e5 b (by omega)).1]; exact z3 s t h1 h2⟩
  -- the rest where costs stand
  have rest : ∀ (v : ah_T) (b k : Nat) (st of : Nat → Nat), rdF b h v → kxR v → spO A v → lmO A v → stG A k st of v → ah_r v 29 11 = some b → coO A k st b v → ah_i v 29 12 = 1 → ah_i v 29 13 = nI c → alR A (A 246) (coL A) c → Mt mX6_stopsOf [.ref 29, .int (((1 : Int32) <<< ((ah_i v 4 3) &&& 31)) - 1)] v (ab_qi fun v33 h31 => Sh h31 ∧ (Mt mX6_rest [.ref 29, .int (nI c), .int v33] h31 (ab_qi fun v36 h34 => Sh h34 ∧ (∀ h37, h37 = ah_si h34 29 2 v36 → (Mt mX6_layRow [.ref 29, .int (nI c)] h37 (ab_qv fun h40 => Sh h40 ∧ Q none h40)))))) := by
    intro v b k st of fv kv spv lmv sgv rb cs i12 i13 ar
    obtain ⟨v1, v2, v3, v4, v5, v6⟩ := fv
    obtain ⟨b1, b2, b3, b4⟩ := kv b rb
    have hk : k ≤ 10 := by have := sgv.2.1; omega
    rw [lmv.2.1, nI_full (by omega)]
    refine c_stopsOf v1 lmv.2.1 h10 hk (fun l hl => ⟨(sgv.2.2.2 l hl).1, (sgv.2.2.2 l hl).2.1⟩) rfl (fun rr hr br => ⟨_, rfl, v1, ?_⟩)
    refine c_rest v1 spv sgv.1 hk (st_12 wl sgv) rb b3 b4 hr hc rfl rfl (fun t ht _ => cs _ t (Nat.xor_lt_two_pow hr (Nat.pow_lt_pow_right (by decide) ht)) ht) (fun t ht => ?_) ⟨_, rfl, v1, ?_⟩
    · obtain ⟨_, l', q1, q2⟩ := sgv.2.2.1 t ht
      rw [q2]
      exact Nat.lt_trans (ar l' q1) (by decide)
    rw [rG_stops sgv br]
    rintro h37 q37
    have s37 : Sh h37 := by rw [q37]; exact sh_si v1
    have e37 : ∀ a, a ≠ 29 → eqc v h37 a := fun a n => by rw [q37]; exact eqc_si eqc_rfl n
    have i37 : ∀ j, j ≠ 2 → ah_i h37 29 j = ah_i v 29 j := fun j n => by rw [q37, ah_i_sn (fun y => n y.2)]
    have r37 : ∀ a j, ah_r h37 a j = ah_r v a j := fun a j => by rw [q37]; rfl
    have k37 : ∀ a, ah_k h37 a = ah_k v a ∧ ah_n h37 a = ah_n v a := fun a => by rw [q37]; exact ⟨rfl, rfl⟩
    have x37 : ah_x h37 = ah_x v := by rw [q37, ah_x_si]
    have sg37 : stG A k st of h37 := ⟨by rw [i37 10 (by decide)]; exact sgv.1, sgv.2.1, fun t ht => by rw [(e37 36 (by decide)).1]; exact sgv.2.2.1 t ht, fun l hl => by rw [(e37 37 (by decide)).1]; exact sgv.2.2.2 l hl⟩
    refine c_layRow s37 (fun x y hx hy => by rw [(e37 33 (by decide)).1]; exact spv x y hx hy) (lmO_fr (e37 4 (by decide)).1 (e37 5 (by decide)).1 lmv) sg37 (by rw [r37]; exact rb) (by rw [(k37 b).1]; exact b3) (by rw [(k37 b).2]; exact b4) b1 (fun s t h1 h2 => by rw [(e37 b (by omega)).1]; exact cs s t h1 h2) hc rfl ar (by rw [q37, ah_i_ss]) (fun g sg xg eg row => ⟨rfl, sg, ?_⟩)
    have g29 := eg 29 (by decide)
    refine hq g b ⟨sg, by omega, v3, v4, fun a h1 n1 n2 n3 n4 n5 => eqc_trans (v5 a h1 n1 n2 n3 n4 n5) (eqc_trans (e37 a n1) (eg a n2)), fun a ha => ?_⟩ (fun b' e => ?_) (.inr ⟨?_, k, st, of, b, ⟨by rw [g29.1]; exact sg37.1, sg37.2.1, fun t ht => by rw [(eg 36 (by decide)).1]; exact sg37.2.2.1 t ht, fun l hl => by rw [(eg 37 (by decide)).1]; exact sg37.2.2.2 l hl⟩, by rw [g29.2.2.1, r37]; exact rb, fun s t h1 h2 => by rw [(eg b (by omega)).1, (e37 b (by omega)).1]; exact cs s t h1 h2⟩) ?_ (.inl ⟨ar, ?_, row⟩)
    · have := v6 a ha
      by_cases y : a = 32
      · rw [y] at this ⊢
        rw [sh_k sg 32 14 (by decide) rfl, ← this, sh_k v1 32 14 (by decide) rfl]
      · rw [(eg a y).2.2.2.1, (k37 a).1]; exact this
    · rw [g29.2.2.1, r37] at e
      obtain ⟨w1, w2, w3, w4⟩ := kv b' e
      exact ⟨w1, by omega, by rw [(eg b' (by omega)).2.2.2.1, (k37 b').1]; exact w3, by rw [(eg b' (by omega)).2.2.2.2, (k37 b').2]; exact w4⟩
    · rw [g29.1, i37 12 (by decide)]; exact i12
    · rw [g29.1, i37 13 (by decide)]; exact i13
    · rw [g29.1, q37, ah_i_ss]
  have l21 : ∀ (q j : Nat), j + q = A 246 → (∀ l, l < j → dS A c (coL A l) < 12) → Wp mX6_findRound Q 0 0 21 [some (.ref 29), some (.int (nI c)), some (.int (nI j))] [] h5 := by
    intro q
    induction q with
    | zero =>
      intro j hj rj
      have e9 : j = A 246 := by omega
      subst e9
      refine T_X6_findRound_21 s5 _ _ ?_
      (first | refine ⟨fun _ => ?_, fun n_ => absurd (show ah_i h5 4 3 ≤ nI (A 246) by rw [lm5.2.1]; exact nI_le (Nat.le_refl _) (by omega)) n_⟩ | refine ⟨fun n_ => absurd (show ah_i h5 4 3 ≤ nI (A 246) by rw [lm5.2.1]; exact nI_le (Nat.le_refl _) (by omega)) n_, fun _ => ?_⟩ | refine ⟨fun y_ => absurd y_ (show ah_i h5 4 3 ≤ nI (A 246) by rw [lm5.2.1]; exact nI_le (Nat.le_refl _) (by omega)), fun _ => ?_⟩ | refine ⟨fun _ => ?_, fun y_ => absurd y_ (show ah_i h5 4 3 ≤ nI (A 246) by rw [lm5.2.1]; exact nI_le (Nat.le_refl _) (by omega))⟩)
      rcases cx5 with z | ⟨z, k, st, of, b, z1, z2, z3⟩
      · (first | refine ⟨fun _ => ?_, fun n_ => absurd (z) n_⟩ | refine ⟨fun n_ => absurd (z) n_, fun _ => ?_⟩ | refine ⟨fun y_ => absurd y_ (z), fun _ => ?_⟩ | refine ⟨fun _ => ?_, fun y_ => absurd y_ (z)⟩)
        refine c_gather2 s5 lm5 (fun u k st of sgu su xu eu e29 r29 => ⟨rfl, su, ?_⟩)
        have kxu : kxR u := fun b e => by
          rw [r29] at e
          obtain ⟨w1, w2, w3, w4⟩ := kx5 b e
          have eb := eu b (by omega) (by omega) (by omega)
          exact ⟨w1, by omega, by rw [eb.2.2.2.1]; exact w3, by rw [eb.2.2.2.2]; exact w4⟩
        have spu : spO A u := fun x y hx hy => by rw [(eu 33 (by decide) (by decide) (by decide)).1]; exact sp5 x y hx hy
        have lmu : lmO A u := lmO_fr (eu 4 (by decide) (by decide) (by decide)).1 (eu 5 (by decide) (by decide) (by decide)).1 lm5
        refine c_fillC su spu wl sgu kxu (fun t t' ht ht' => ?_) (fun v b sv xv rb hb hbx bo kb nbb cs ev e29v r29v kn => ⟨rfl, sv, ?_⟩)
        · obtain ⟨_, l, q1, q2⟩ := sgu.2.2.1 t ht
          obtain ⟨_, l', q3, q4⟩ := sgu.2.2.1 t' ht'
          rw [q2, q4]
          have := co_22 (co := coL A) (show alR A (A 246) (coL A) c from rj) q1 q3
          exact Nat.lt_of_le_of_lt this (by decide)
        rintro h28 q28
        have s28 : Sh h28 := by rw [q28]; exact sh_si sv
        have e28 : ∀ a, a ≠ 29 → eqc v h28 a := fun a n => by rw [q28]; exact eqc_si eqc_rfl n
        have i28 : ∀ j, j ≠ 12 → ah_i h28 29 j = ah_i v 29 j := fun j n => by rw [q28, ah_i_sn (fun y => n y.2)]
        have r28 : ∀ a j, ah_r h28 a j = ah_r v a j := fun a j => by rw [q28]; rfl
        have k28 : ∀ a, ah_k h28 a = ah_k v a ∧ ah_n h28 a = ah_n v a := fun a => by rw [q28]; exact ⟨rfl, rfl⟩
        have x28 : ah_x h28 = ah_x v := by rw [q28, ah_x_si]
        have u28 : ∀ a, a < 123 → a ≠ 29 → eqc u h28 a := fun a h1 h2 => eqc_trans (ev a h2 (by omega) (by omega)) (e28 a h2)
        have b5 : b < ah_x h → ah_k h b = 14 ∧ ah_n h b = 10240 := fun w => by
          have := bo (by omega)
          rw [r29, r5] at this
          obtain ⟨_, _, w3, w4⟩ := kx b this
          exact ⟨w3, w4⟩
        refine rest h28 b k st of ⟨s28, by omega, hb, b5, fun a h1 n1 n2 n3 n4 n5 => eqc_trans (e5 a n1) (eqc_trans (eu a n1 n3 n4) (eqc_trans (ev a n1 (by omega) n5) (e28 a n1))), fun a ha => ?_⟩ (fun b' e => ?_) (fun x y hx hy => by rw [(u28 33 (by decide) (by decide)).1]; exact spu x y hx hy) (lmO_fr (u28 4 (by decide) (by decide)).1 (u28 5 (by decide) (by decide)).1 lmu) ⟨by rw [i28 10 (by decide), e29v]; exact sgu.1, sgu.2.1, fun t ht => by rw [(u28 36 (by decide) (by decide)).1]; exact sgu.2.2.1 t ht, fun l hl => by rw [(u28 37 (by decide) (by decide)).1]; exact sgu.2.2.2 l hl⟩ (by rw [r28]; exact rb) (fun s t h1 h2 => by rw [(e28 b (by omega)).1]; exact cs s t h1 h2) (by rw [q28, ah_i_ss]) ?_ rj
        · rw [(k28 a).1, kn a (by omega)]
          by_cases y : a = 29
          · rw [y, sh_k su 29 6 (by decide) rfl, sh_k hs 29 6 (by decide) rfl]
          · by_cases y2 : a = 36
            · rw [y2, sh_k su 36 14 (by decide) rfl, sh_k hs 36 14 (by decide) rfl]
            · by_cases y3 : a = 37
              · rw [y3, sh_k su 37 14 (by decide) rfl, sh_k hs 37 14 (by decide) rfl]
              · rw [(eu a y y2 y3).2.2.2.1, (k5 a).1]
        · rw [r28, rb] at e
          cases e
          exact ⟨hb, by omega, by rw [(k28 b).1]; exact kb, by rw [(k28 b).2]; exact nbb⟩
        · rw [i28 13 (by decide), e29v, e29 13 (by decide), i5, if_neg (by decide), if_pos rfl]
      · (first | refine ⟨fun _ => ?_, fun n_ => absurd (show ¬ ah_i h5 29 12 = 0 by rw [z]; decide) n_⟩ | refine ⟨fun n_ => absurd (show ¬ ah_i h5 29 12 = 0 by rw [z]; decide) n_, fun _ => ?_⟩ | refine ⟨fun y_ => absurd y_ (show ¬ ah_i h5 29 12 = 0 by rw [z]; decide), fun _ => ?_⟩ | refine ⟨fun _ => ?_, fun y_ => absurd y_ (show ¬ ah_i h5 29 12 = 0 by rw [z]; decide)⟩)
        obtain ⟨w1, w2, w3, w4⟩ := kx5 b z2
        exact rest h5 b k st of ⟨s5, by omega, w1, fun _ => ⟨by rw [← (k5 b).1]; exact w3, by rw [← (k5 b).2]; exact w4⟩, fun a _ n1 _ _ _ _ => e5 a n1, fun a _ => (k5 a).1⟩ kx5 sp5 lm5 z1 z2 z3 z (by rw [i5, if_neg (by decide), if_pos rfl]) rj
    | succ q ih =>
      intro j hj rj
      have hjn : j < A 246 := by omega
      have cl12 : coL A j < 12 := (wl.2 j hjn).1
      refine T_X6_findRound_21 s5 _ _ ?_
      (first | refine ⟨fun _ => ?_, fun n_ => absurd (show ¬ ah_i h5 4 3 ≤ nI j by rw [lm5.2.1]; exact nI_ge hjn (by omega)) n_⟩ | refine ⟨fun n_ => absurd (show ¬ ah_i h5 4 3 ≤ nI j by rw [lm5.2.1]; exact nI_ge hjn (by omega)) n_, fun _ => ?_⟩ | refine ⟨fun y_ => absurd y_ (show ¬ ah_i h5 4 3 ≤ nI j by rw [lm5.2.1]; exact nI_ge hjn (by omega)), fun _ => ?_⟩ | refine ⟨fun _ => ?_, fun y_ => absurd y_ (show ¬ ah_i h5 4 3 ≤ nI j by rw [lm5.2.1]; exact nI_ge hjn (by omega))⟩)
      refine c_getC s5 lm5 hjn rfl ⟨_, rfl, s5, ?_⟩
      have a1 : nI c * 12 + nI (coL A j) = nI (c * 12 + coL A j) := by rw [n_12, nI_mul, nI_add]
      rw [a1, sh_n s5 33 144 (by decide) (by decide) rfl, c_steps hc cl12, nI_1]
      refine ⟨fun _ _ => (vp_nI (by omega)).mpr (by omega), ?_⟩
      rcases dS_v (sp5 c (coL A j) hc cl12) with ⟨v1, v2⟩ | ⟨v1, v2⟩
      · rw [v1]
        refine ⟨fun y => absurd rfl y, fun _ => ?_⟩
        obtain ⟨b, f1, f2, f3, f4, f5, f6⟩ := oth
        refine hq h5 b ⟨s5, by omega, f3, f4, fun a _ n1 _ _ _ _ => e5 a n1, fun a _ => (k5 a).1⟩ kx5 cx5 (by rw [i5, if_neg (by decide), if_pos rfl]) (.inr ⟨fun ar => ?_, by rw [i5, if_pos rfl]⟩)
        have := ar j hjn
        omega
      · rw [v1]
        refine ⟨fun _ => ih (j + 1) (by omega) (fun l hl => ?_), fun y => absurd y (nI_m1 (by omega))⟩
        by_cases w : l = j
        · rw [w]; exact v2
        · exact rj l (by omega)
  exact l21 (A 246) 0 (by omega) (fun l hl => absurd hl (by omega))
end RE
