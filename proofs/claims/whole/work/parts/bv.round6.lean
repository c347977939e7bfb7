/-! ===== rounds: what else is kept stands ===== -/
def KXc (h : ah_T) : Prop := kxR h ∧ ah_i h 63 1 = 1 ∧ ah_i h 65 1 = 1
def RXc (A : Nat → Nat) (h : ah_T) : Prop := A 245 ≤ 20 ∧ wfL A ∧ coX A h ∧ rdQ A h
section RF
variable {WX SX : (Nat → Nat) → ah_T → Prop} {A : Nat → Nat} {h g : ah_T} {g0 b x c o n : Nat}
theorem tx_nb {ro : Bool} {cls : List Cl} (t : tx h x ro cls) (kb : b < ah_x h → ah_k h b = 14 ∧ ah_n h b = 10240) : ∀ i, i < 4 → x + i ≠ b := by
  obtain ⟨⟨t1, t2, t3, t4, t5, t6⟩, _, _, _, _, tl, tn, tm, c, q, tq, tc, _⟩ := t
  intro i hi e
  obtain ⟨k14, k10⟩ := kb (by omega)
  rcases (show i = 0 ∨ i = 1 ∨ i = 2 ∨ i = 3 by omega) with rfl | rfl | rfl | rfl
  · rw [Nat.add_zero] at e
    rw [← e, t3] at k14; exact absurd k14 (by decide)
  · rw [← e] at k10; omega
  · rw [← e] at k10; omega
  · rw [← e] at k10; omega
theorem tp_rd {L : Option (List Cl)} {wi mo g1 : Nat} (kb : b < ah_x h → ah_k h b = 14 ∧ ah_n h b = 10240) (e38 : eqc h g 38) (e39 : ∀ j, ah_l g 39 j = ah_l h 39 j) (eb : ∀ a, 123 ≤ a → a < ah_x h → a ≠ b → eqc h g a) (hx : ah_x h ≤ ah_x g) (tp : tpO L wi mo g1 h) : tpO L wi mo g1 g := by
  obtain ⟨l0, t1, t2, t3, t4, t5, t6⟩ := tp
  refine ⟨?_, by rw [e38.1]; exact t1, by rw [e38.1]; exact t2, by rw [e38.2.1]; exact t3, t4, t5, fun p hp => ?_⟩
  · cases L with
    | none => exact (e38.2.2.1 3).trans l0
    | some cls =>
      obtain ⟨x, ex, tt, hL⟩ := l0
      have h1 := tt.1.1
      have h2 := tt.1.2.1
      exact ⟨x, by rw [e38.2.2.1]; exact ex, tx_fr (fun i hi => eb _ (by omega) (by omega) (tx_nb tt kb i hi)) hx tt, hL⟩
  · obtain ⟨v, m1, m2, m3⟩ := t6 p hp
    refine ⟨v, by rw [e39]; exact m1, m2, fun cls x eL ex what w hw wr q6 q7 q => ?_⟩
    subst eL
    rw [e38.2.2.1] at ex
    obtain ⟨x', ex', tt, hL⟩ := l0
    have e : x = x' := Option.some.inj (ex.symm.trans ex')
    subst e
    have h123 := tt.1.1
    have h2 := tt.1.2.1
    rw [(eb (x + 3) (by omega) (by omega) (tx_nb tt kb 3 (by omega))).1] at q
    exact m3 cls x rfl ex what w hw wr q6 q7 q
theorem lkO_rd (hs : Sh h) (W : Wp1 WX wkX Cwk) (f : rdF b h g) (kx : KXc g) (rx : RXc A g) (l : lkO KXc RXc WX g0 A h) : lkO KXc RXc WX g0 A g := by
  obtain ⟨sg, hx, hb, kb, eo, _⟩ := f
  have x123 := hs.2.2
  obtain ⟨⟨l1, l2, l3, l4, l5⟩, o, _, _, wx, f18, f19⟩ := l
  obtain ⟨t1, t2, t3, t4, t5, t6⟩ := l2
  have e : ∀ a, a < 123 → a ≠ 29 → a ≠ 32 → a ≠ 36 → a ≠ 37 → eqc h g a := fun a h1 n1 n2 n3 n4 => eo a (by omega) n1 n2 n3 n4 (by omega)
  have ei : ∀ a, a < 123 → a ≠ 29 → a ≠ 32 → a ≠ 36 → a ≠ 37 → ∀ j, ah_i g a j = ah_i h a j := fun a h1 n1 n2 n3 n4 => (e a h1 n1 n2 n3 n4).1
  have e38 := e 38 (by omega) (by omega) (by omega) (by omega) (by omega)
  have eb : ∀ a, 123 ≤ a → a < ah_x h → a ≠ b → eqc h g a := fun a h1 h2 h3 => eo a h2 (by omega) (by omega) (by omega) (by omega) h3
  have us : ∀ what, usd g what = usd h what := by
    intro what
    unfold usd
    rw [e38.2.2.1]
    cases z : ah_r h 38 3 with
    | none => rfl
    | some x =>
      have lw := t1.1
      cases y : lawL A with
      | none =>
        rw [y] at lw
        have l1 : ah_r h 38 3 = none := lw
        rw [z] at l1; cases l1
      | some cls =>
        rw [y] at lw
        obtain ⟨x', ex', tt, _⟩ := lw
        have exy : x = x' := Option.some.inj (z.symm.trans ex')
        subst exy
        have h1 := tt.1.1
        have h2 := tt.1.2.1
        exact (eb (x + 3) (by omega) (by omega) (tx_nb tt kb 3 (by omega))).1 what
  have t4' : hfO (lawL A) (A 242) (A 244) A g := by
    unfold hfO at t4 ⊢
    simp only [us, ei 40 (by omega) (by omega) (by omega) (by omega) (by omega), ei 41 (by omega) (by omega) (by omega) (by omega) (by omega), ei 42 (by omega) (by omega) (by omega) (by omega) (by omega)]
    exact t4
  refine ⟨⟨cTw_fr (fun a ha => ei a (by omega) (by omega) (by omega) (by omega) (by omega)) l1, ⟨tp_rd kb e38 (e 39 (by omega) (by omega) (by omega) (by omega) (by omega)).2.1 eb hx t1, t2, wB_of (ei 27 (by omega) (by omega) (by omega) (by omega) (by omega)) t3, t4', sgO_fr (ei 34 (by omega) (by omega) (by omega) (by omega) (by omega)) t5, lmO_fr (ei 4 (by omega) (by omega) (by omega) (by omega) (by omega)) (ei 5 (by omega) (by omega) (by omega) (by omega) (by omega)) t6⟩, cND_fr (fun a ha => ei a (by omega) (by omega) (by omega) (by omega) (by omega)) (fun j _ => ei 43 (by omega) (by omega) (by omega) (by omega) (by omega) j) l3, stO_fr (fun a ha => ei a (by omega) (by omega) (by omega) (by omega) (by omega)) l4, cWs_fr (e 2 (by omega) (by omega) (by omega) (by omega) (by omega)) (e 3 (by omega) (by omega) (by omega) (by omega) (by omega)) l5⟩, ?_, kx, rx, W.2 _ _ _ (fun a j w _ => ?_) wx (wkX_fr (fun a j w => ?_) (W.1 _ _ wx)), by rw [ei 0 (by omega) (by omega) (by omega) (by omega) (by omega)]; exact f18, by rw [ei 0 (by omega) (by omega) (by omega) (by omega) (by omega)]; exact f19⟩
  · unfold chO at o ⊢
    rw [ei 54 (by omega) (by omega) (by omega) (by omega) (by omega)]
    rcases o with y | ⟨y, r, l⟩
    · exact .inl y
    · exact .inr ⟨y, chR_fr (fun b hb => ei b (by omega) (by omega) (by omega) (by omega) (by omega)) r, chL_fr (ei 59 (by omega) (by omega) (by omega) (by omega) (by omega)) l⟩
  · have hr : 53 < a ∧ a < 82 := by
      unfold wxc Cwk Cst Ccg Cli Cwo Chg Cpc at w
      omega
    exact ei a (by omega) (by omega) (by omega) (by omega) (by omega) j
  · have hr : 53 < a ∧ a < 82 := by
      unfold Cwk at w
      omega
    exact ei a (by omega) (by omega) (by omega) (by omega) (by omega) j
theorem Tn_rd {B : Nat → Nat} (w : WF B) (kb : b < ah_x h → ah_k h b = 14 ∧ ah_n h b = 10240) (kn : ∀ a, a < ah_x h → ah_k g a = ah_k h a) (eo : ∀ a, 123 ≤ a → a < ah_x h → a ≠ b → eqc h g a) (h1 : ∀ i, i < 15 → eqc h g (o + i)) (h2 : eqc h g c) (hx : ah_x h ≤ ah_x g) {oo : Nat} (q : Tn TXm B h o c oo) : Tn TXm B g o c oo := by
  obtain ⟨q1, q2, q3, q4, q5, q6, q7, q8⟩ := q
  have z : ∀ j, ah_i g c (oo + j) = ah_i h c (oo + j) ∧ B j = B j := fun j => ⟨h2.1 _, rfl⟩
  refine ⟨cp3_fr (h1 1 (by omega)).1 (h1 2 (by omega)).1 (fun j _ => z j) q1, cp3_fr (h1 3 (by omega)).1 (h1 4 (by omega)).1 (fun j _ => z j) q2, cp3_fr (h1 5 (by omega)).1 (h1 6 (by omega)).1 (fun j _ => z j) q3, cpL_fr w.2.2.2.1 (h1 7 (by omega)).1 (h1 8 (by omega)).1 (fun j _ => z j) q4, cp3_fr (h1 9 (by omega)).1 (h1 10 (by omega)).1 (fun j _ => z j) q5, cp3_fr (h1 11 (by omega)).1 (h1 12 (by omega)).1 (fun j _ => z j) q6, cpT_fr (h1 13 (by omega)).1 (fun j _ => z j) q7, ?_⟩
  obtain ⟨r1, r2, r3, r4, r5, r6⟩ := q8
  have e0 := (h1 0 (by omega)).1
  rw [Nat.add_zero] at e0
  have e14 := (h1 14 (by omega)).2.2.1
  refine ⟨by rw [e0]; exact r1, by rw [e0]; exact r2, by rw [h2.1]; exact r3, by rw [h2.1]; exact r4, fun t ht => ?_, fun t x ex => ?_⟩
  · obtain ⟨s1, s2, x, s3, s4⟩ := r5 t ht
    refine ⟨by rw [h2.1]; exact s1, fun k hk => by rw [h2.1, h2.1]; exact s2 k hk, x, by rw [e14]; exact s3, ?_⟩
    have f := TXmp.2.1 _ _ _ _ _ s4
    exact TXmp.1 _ _ _ _ _ _ s4 (fun i hi => eo _ (by omega) (by omega) (tx_nb s4.2 kb i hi)) hx
  · rw [e14] at ex
    obtain ⟨a1, a2, a3, a4, a5, a6⟩ := r6 t x ex
    exact ⟨a1, Nat.le_trans a2 hx, (kn x (by omega)).trans a3, (kn (x + 1) (by omega)).trans a4, (kn (x + 2) (by omega)).trans a5, (kn (x + 3) (by omega)).trans a6⟩
theorem bsO_rd (hs : Sh h) (f : rdF b h g) (q : bsO A h) : bsO A g := by
  obtain ⟨sg, hx, hb, kb, eo, kn⟩ := f
  have x123 := hs.2.2
  have e : ∀ a, a < 123 → a ≠ 29 → a ≠ 32 → a ≠ 36 → a ≠ 37 → eqc h g a := fun a h1 n1 n2 n3 n4 => eo a (by omega) n1 n2 n3 n4 (by omega)
  have eb : ∀ a, 123 ≤ a → a < ah_x h → a ≠ b → eqc h g a := fun a h1 h2 h3 => eo a h2 (by omega) (by omega) (by omega) (by omega) h3
  have eS : ∀ a, (a < 29 ∨ (81 < a ∧ a < 123)) → eqc h g a := fun a ha => e a (by omega) (by omega) (by omega) (by omega) (by omega)
  obtain ⟨B0, B1, d, D, b1, b2, b3, ⟨s1, s2, s3, s4, s5, s6, s7, s8, s9⟩, ⟨t1, t2, t3, t4⟩, b6⟩ := q
  have one : ∀ (B : Nat → Nat) (j : Nat), Im1 TXm B h j → Im1 TXm B g j := by
    intro B j q
    rcases q with ⟨q1, q2⟩ | ⟨q1, b', q2, q3, q4, q5⟩
    · exact .inl ⟨by rw [(eS 86 (by omega)).1]; exact q1, by rw [(eS 16 (by omega)).2.2.1]; exact q2⟩
    · have p1 := q3.1
      have p2 := q3.2.1
      have bo : ∀ i, i < 15 → eqc h g (b' + i) := fun i hi => eb _ (by omega) (by omega) (fun y => by
        obtain ⟨k14, k10⟩ := kb (by omega)
        have := bl_co (h := h) (b := b') (x := b) q3.2.2 k14 k10
        omega)
      exact .inr ⟨by rw [(eS 86 (by omega)).1]; exact q1, b', by rw [(eS 16 (by omega)).2.2.1]; exact q2, iR_fr bo hx q3, Tn_rd q5 kb kn eb bo (eS 85 (by omega)) hx q4, q5⟩
  refine ⟨B0, B1, d, D, b1, Tn_rd b1 kb kn eb (fun i hi => eS _ (by omega)) (eS 84 (by omega)) hx b2, ⟨one B0 0 b3.1, one B1 1 b3.2.1, by rw [(eS 16 (by omega)).2.2.1, (eS 16 (by omega)).2.2.1]; exact b3.2.2⟩, ?_, ?_, ?_⟩
  · have e18 := (eS 18 (by omega)).1
    have e83 := (eS 83 (by omega)).1
    have e0 := (eS 0 (by omega)).1
    have e82 := (eS 82 (by omega)).1
    exact ⟨by rw [e0, e82]; exact s1, by rw [e18, e83]; exact s2, by rw [e18, e83]; exact s3, by rw [e18, e83]; exact s4, by rw [e18, e83]; exact s5, by rw [e18, e83]; exact s6, by rw [e0, e82]; exact s7, by rw [e0, e82]; exact s8, by rw [e0, e82]; exact s9⟩
  · exact ⟨t1, by rw [(eS 0 (by omega)).1]; exact t2, by rw [(eS 82 (by omega)).1]; exact t3, fun j hj => by rw [(eS 17 (by omega)).1, (eS 88 (by omega)).1]; exact t4 j hj⟩
  · unfold Dr
    rw [(eS 82 (by omega)).1, (eS 19 (by omega)).1]
    rcases b6 with y | y
    · exact .inl y
    · refine .inr ⟨y.1, fun j hj => ?_⟩
      rw [(eS 19 (by omega)).1, (eS 122 (by omega)).1]
      exact y.2 j hj
theorem preQ_rd (hs : Sh h) (f : rdF b h g) (l : lkO KXc RXc WX g0 A g) (p : preQ KXc RXc WX SX n A h) (hS : SXp SX) : preQ KXc RXc WX SX n A g := by
  have f' := f
  obtain ⟨sg, hx, hb, kb, eo, kn⟩ := f'
  have x123 := hs.2.2
  have eS : ∀ a, (a = 38 ∨ (81 < a ∧ a < 123)) → eqc h g a := fun a ha => eo a (by omega) (by omega) (by omega) (by omega) (by omega) (by omega)
  obtain ⟨p1, p2, ⟨v, c1, c2, c3, c4⟩, ⟨gg, c5, c6⟩, c7, c8, c9, c10⟩ := p
  have e82 := (eS 82 (by omega)).1
  exact ⟨bsO_rd hs f p1, lkO_cc l, ⟨v, by rw [e82]; exact c1, c2, by rw [e82]; exact c3, by rw [e82]; exact c4⟩, ⟨gg, by rw [(eS 38 (by omega)).2.1]; exact c5, c6⟩, fun j hj => by rw [(eS 87 (by omega)).1]; exact c7 j hj, mKn_e (fun a ha => (eS a (by omega)).1) (e82 29) (e82 1) c8, mNg_e (fun a ha => (eS a (by omega)).1) (e82 49) (e82 1) c9, hS.1 _ _ _ (fun j _ => e82 j) c10⟩
end RF
