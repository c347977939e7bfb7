/-! ===== the class looks; the model's keeping; calls that tell nothing ===== -/
section LK2
variable {KX : ah_T → Prop} {RX WX SX : (Nat → Nat) → ah_T → Prop} {A A' : Nat → Nat} {h h' g : ah_T} {g0 n : Nat}
/-- off the class's findings all is as it was -/
def loF (h h' : ah_T) : Prop := Sh h' ∧ ah_x h' = ah_x h ∧ (∀ a, ((1 ≤ a ∧ a < 26) ∨ 81 < a) → eqc h h' a) ∧ ∀ j, j ≠ 18 → j ≠ 19 → ah_i h' 0 j = ah_i h 0 j
theorem loF_r (hs : Sh h) : loF h h := ⟨hs, rfl, fun _ _ => eqc_rfl, fun _ _ _ => rfl⟩
theorem loF_t {h1 : ah_T} (p : loF h g) (q : loF g h1) : loF h h1 := ⟨q.1, by rw [q.2.1, p.2.1], fun a n => eqc_trans (p.2.2.1 a n) (q.2.2.1 a n), fun j n1 n2 => by rw [q.2.2.2 j n1 n2, p.2.2.2 j n1 n2]⟩
theorem loF_ch (f : chF h g) : loF h g := ⟨f.1, f.2.1, fun a n => f.2.2.1 a (by omega), fun j _ _ => (f.2.2.1 0 (by omega)).1 j⟩
theorem tmO_g {L : Option (List Cl)} {wi mo : Nat} (e : ∀ a, (a < 43 ∨ 82 ≤ a) → eqc h g a) (hx : ah_x g = ah_x h) (t : tmO L wi mo g0 A h) : tmO L wi mo g0 A g := by
  obtain ⟨t1, t2, t3, t4, t5, t6⟩ := t
  have ei : ∀ a, (a < 43 ∨ 82 ≤ a) → ∀ j, ah_i g a j = ah_i h a j := fun a n => (e a n).1
  have us : ∀ what, usd g what = usd h what := by
    intro what
    unfold usd
    rw [(e 38 (by omega)).2.2.1]
    cases z : ah_r h 38 3 with
    | none => rfl
    | some x =>
      have := lw_123 t1.1 z
      exact ei (x + 3) (by omega) what
  refine ⟨tp_fr (e 38 (by omega)) (e 39 (by omega)).2.1 (fun a ha => e a (by omega)) (Nat.le_of_eq hx.symm) t1, t2, wB_of (ei 27 (by omega)) t3, ?_, sgO_fr (ei 34 (by omega)) t5, lmO_fr (ei 4 (by omega)) (ei 5 (by omega)) t6⟩
  unfold hfO at t4 ⊢
  simp only [us, ei 40 (by omega), ei 41 (by omega), ei 42 (by omega)]
  exact t4
theorem cor_g (e : ∀ a, (a ≠ 0 ∧ a < 54) ∨ 82 ≤ a → eqc h g a) (e0 : eqc h g 0 ∨ True) (hs : Sh g) (hx : ah_x g = ah_x h) (c : cor g0 A h) : cor g0 A g := by
  obtain ⟨c1, c2, c3, c4, c5⟩ := c
  have ei : ∀ a, (a ≠ 0 ∧ a < 54) ∨ 82 ≤ a → ∀ j, ah_i g a j = ah_i h a j := fun a n => (e a n).1
  obtain ⟨t1, t2, t3, t4, t5, t6⟩ := c2
  have us : ∀ what, usd g what = usd h what := by
    intro what
    unfold usd
    rw [(e 38 (by omega)).2.2.1]
    cases z : ah_r h 38 3 with
    | none => rfl
    | some x =>
      have := lw_123 t1.1 z
      exact ei (x + 3) (by omega) what
  obtain ⟨⟨a1, a2, a3, a4⟩, ⟨b1, b2, b3, b4⟩, ⟨q1, q2, q3, q4⟩, d1, d2⟩ := c1
  refine ⟨⟨⟨by rw [ei 4 (by omega)]; exact a1, by rw [ei 4 (by omega)]; exact a2, a3, fun j hj => by rw [ei 5 (by omega)]; exact a4 j hj⟩, ⟨by rw [ei 6 (by omega)]; exact b1, by rw [ei 6 (by omega)]; exact b2, b3, fun j hj => by rw [ei 7 (by omega)]; exact b4 j hj⟩, ⟨by rw [ei 8 (by omega)]; exact q1, by rw [ei 8 (by omega)]; exact q2, q3, fun l hl => ?_⟩, by rw [ei 14 (by omega)]; exact d1, d2⟩, ⟨tp_fr (e 38 (by omega)) (e 39 (by omega)).2.1 (fun a ha => e a (by omega)) (Nat.le_of_eq hx.symm) t1, t2, wB_of (ei 27 (by omega)) t3, ?_, sgO_fr (ei 34 (by omega)) t5, lmO_fr (ei 4 (by omega)) (ei 5 (by omega)) t6⟩, cND_fr (fun a ha => ei a (by omega)) (fun j _ => ei 43 (by omega) j) c3, stO_fr (fun a ha => ei a (by omega)) c4, cWs_fr (e 2 (by omega)) (e 3 (by omega)) c5⟩
  · obtain ⟨r1, r2, r3, r4, r5⟩ := q4 l hl
    exact ⟨by rw [ei 9 (by omega)]; exact r1, by rw [ei 9 (by omega)]; exact r2, by rw [ei 9 (by omega)]; exact r3, by rw [ei 9 (by omega)]; exact r4, fun i hi => by rw [ei 9 (by omega)]; exact r5 i hi⟩
  · unfold hfO at t4 ⊢
    simp only [us, ei 40 (by omega), ei 41 (by omega), ei 42 (by omega)]
    exact t4
theorem XF_0 (hx : ah_x g = ah_x h) (e : ∀ a, a ≠ 0 → eqc h g a) : XF h g := XF_of (Nat.le_of_eq hx.symm) (fun a ha => e a (by omega)) (fun j _ => (e 54 (by omega)).1 j)
theorem c_look {Q : Option Value → ah_T → Prop} (hs : Sh h) (X : XP KX RX WX) (wf : WF A) (tn : Tn TXm A h 1 84 0) (cc : CCg KX RX WX A h) {G : Nat} (hg : (ah_l h 38 7).toInt = G) (hG : G < 2 ^ 29) (hq : ∀ h' g', loF h h' → g' ≤ G + 1 → lkO KX RX WX g' A h' → Q none h') : Mt mX11_look [.ref 0] h Q := by
  obtain ⟨c1, c2, c3, c4, ⟨L, wi, mo, g, c5, c6, c7⟩, c8, c9⟩ := cc
  have eG : g = G := by
    have := c5.2.2.2.1
    rw [hg] at this
    omega
  subst eG
  have tw := cTw_of wf tn
  have ws := cWs_of wf tn
  -- what follows the survey
  have rest : ∀ u, Sh u → ah_x u = ah_x h → (∀ a, (a < 29 ∨ 35 < a) → eqc h u a) → stO A u → KX u → RX A u → (ah_i u 0 18 = 0 → hfO L wi mo A u) → Mt mX8_heed [.ref 38, .int (ah_i u 0 18)] u (ab_qv fun h3 => Sh h3 ∧ (Mt mX3_load [.ref 43] h3 (ab_qv fun h6 => Sh h6 ∧ (Mt mX0_forget [.ref 54] h6 (ab_qv fun h9 => Sh h9 ∧ (Mt mX1_forget [.ref 62] h9 (ab_qv fun h12 => Sh h12 ∧ (Mt mX4_forget [.ref 74] h12 (ab_qv fun h15 => Sh h15 ∧ (∀ h18, h18 = ah_si h15 0 19 0 → (∀ h21, h21 = ah_si h18 0 18 0 → Q none h21))))))))))) := by
    intro u su xu eu st kx rx hk
    have tnu : Tn TXm A u 1 84 0 := Tn_fr wf TXmp (fun i hi => eu _ (by omega)) (eu 84 (by omega)) (fun x _ _ _ i hi => eu _ (by omega)) (Nat.le_of_eq xu.symm) tn
    have tpu : tpO L wi mo g u := tp_fr (eu 38 (by omega)) (eu 39 (by omega)).2.1 (fun a ha => eu a (by omega)) (Nat.le_of_eq xu.symm) c5
    have sgu : sgO A u := st.2.2.2.1
    refine c_heed su tpu (by omega) (lgO_of wf tnu) wf.2.1 (fun a b ha hb => (sgv_in (sgu a b ha hb)).2) hk (fun h3 g' f3 hg' tp3 hf3 => ⟨rfl, f3.1, ?_⟩)
    have k3 := X.1 _ _ (XF_hd f3) kx
    have r3 := X.2.1 _ _ _ (XF_hd f3) kx rx
    have tw3 : cTw A h3 := cTw_fr (fun a ha j => by rw [(f3.2.2 a (by omega) (by omega) (by omega) (by omega)).1, (eu a (by omega)).1]) tw
    have tm3 : tmN g' A h3 := ⟨tp3, by omega, wB_of (fun j => by rw [(f3.2.2 27 (by decide) (by decide) (by decide) (by decide)).1, (eu 27 (by omega)).1]) c1, hf3, sgO_fr (f3.2.2 34 (by decide) (by decide) (by decide) (by decide)).1 sgu, tw3.1⟩
    have e15 : ah_i h3 43 15 = nO 0 := by rw [(f3.2.2 43 (by decide) (by decide) (by decide) (by decide)).1, (eu 43 (by omega)).1, c3]; rfl
    refine c_load f3.1 tw3 e15 (by omega) (fun h6 f6 d6 => ⟨rfl, f6.1, T_X0_forget f6.1 ?_⟩)
    have z0 : Int32.toNatClampNeg 0 = 0 := rfl
    rw [z0]
    rintro v1 q1 h9 q9
    have s9 : Sh h9 := by rw [q9, q1]; exact sh_si (sh_si f6.1)
    refine ⟨rfl, s9, T_X1_forget s9 ?_⟩
    rw [z0]
    rintro v2 q2 v3 q3 v4 q4 v5 q5 h12 q12
    have s12 : Sh h12 := by rw [q12, q5, q4, q3, q2]; exact sh_si (sh_si (sh_si (sh_si (sh_si s9))))
    refine ⟨rfl, s12, T_X4_forget s12 ?_⟩
    rw [z0]
    rintro v6 q6 h15 q15
    have s15 : Sh h15 := by rw [q15, q6]; exact sh_si (sh_si s12)
    refine ⟨rfl, s15, ?_⟩
    have x15 : ah_x h15 = ah_x h6 := by rw [q15, q6, q12, q5, q4, q3, q2, q9, q1]; rfl
    have e15' : ∀ a, a ≠ 54 → a ≠ 60 → a ≠ 62 → a ≠ 70 → a ≠ 74 → a ≠ 76 → eqc h6 h15 a := fun a n1 n2 n3 n4 n5 n6 => by
      rw [q15, q6, q12, q5, q4, q3, q2, q9, q1]
      exact eqc_si (eqc_si (eqc_si (eqc_si (eqc_si (eqc_si (eqc_si (eqc_si (eqc_si eqc_rfl n1) n2) n3) n3) n3) n3) n4) n6) n5
    have fg : fgF h6 h15 := by
      refine ⟨x15, e15', fun j n => ?_, fun j n1 n2 n3 n4 => ?_, fun j n => ?_, ?_, ?_, ?_, ?_, ?_, ?_, ?_, ?_, ?_⟩
      all_goals simp only [q15, q6, q12, q5, q4, q3, q2, q9, q1, ah_i_si]
      all_goals simp
      all_goals (first | (rw [if_neg n4, if_neg n3, if_neg n2, if_neg n1]; done) | (intro; omega) | omega | skip)
    have k6 := X.1 _ _ (XF_ce f6) k3
    have r6 := X.2.1 _ _ _ (XF_ce f6) k3 r3
    obtain ⟨k15, w15, r15⟩ := X.2.2.2.2.2 A _ _ fg k6
    have r15 := r15 r6
    rintro h18 rfl h21 q21
    have s21 : Sh h21 := by rw [q21]; exact sh_si (sh_si s15)
    have x21 : ah_x h21 = ah_x h15 := by rw [q21]; rfl
    have e21 : ∀ a, a ≠ 0 → eqc h15 h21 a := fun a n => by rw [q21]; exact eqc_si (eqc_si eqc_rfl n) n
    have xf := XF_0 x21 e21
    have cor6 : cor g' A h6 := ⟨cTw_n f6 tw3, tmO_n f6 tm3, d6, stO_fr (fun a ha j => by rw [(f6.2.2 a (by omega)).1, (f3.2.2 a (by omega) (by omega) (by omega) (by omega)).1]) st, cWs_fr (eqc_trans (eu 2 (by omega)) (eqc_trans (f3.2.2 2 (by decide) (by decide) (by decide) (by decide)) (f6.2.2 2 (by omega)))) (eqc_trans (eu 3 (by omega)) (eqc_trans (f3.2.2 3 (by decide) (by decide) (by decide) (by decide)) (f6.2.2 3 (by omega)))) ws⟩
    have e6 : ∀ a, a ≠ 0 → a ≠ 54 → a ≠ 60 → a ≠ 62 → a ≠ 70 → a ≠ 74 → a ≠ 76 → eqc h6 h21 a := fun a n0 n1 n2 n3 n4 n5 n6 => eqc_trans (e15' a n1 n2 n3 n4 n5 n6) (e21 a n0)
    have c21 : cor g' A h21 := cor_g (fun a ha => e6 a (by omega) (by omega) (by omega) (by omega) (by omega) (by omega) (by omega)) (.inr trivial) s21 (by rw [x21, x15]) cor6
    refine hq h21 g' ⟨s21, by rw [x21, x15, f6.2.1, f3.2.1, xu], fun a ha => ?_, fun j n1 n2 => ?_⟩ hg' ⟨c21, ?_, X.1 _ _ xf k15, X.2.1 _ _ _ xf k15 r15, X.2.2.1 _ _ _ xf k15 w15, ?_, ?_⟩
    · exact eqc_trans (eu a (by omega)) (eqc_trans (f3.2.2 a (by omega) (by omega) (by omega) (by omega)) (eqc_trans (f6.2.2 a (by omega)) (e6 a (by omega) (by omega) (by omega) (by omega) (by omega) (by omega) (by omega))))
    · rw [q21, ah_i_sn (by omega), ah_i_sn (by omega), (e15' 0 (by decide) (by decide) (by decide) (by decide) (by decide) (by decide)).1, (f6.2.2 0 (by omega)).1, (f3.2.2 0 (by decide) (by decide) (by decide) (by decide)).1, (eu 0 (by omega)).1]
    · refine .inl ?_
      rw [(e21 54 (by decide)).1]
      exact fg.2.2.2.2.2.1
    · rw [q21, ah_i_ss]
    · rw [q21, ah_i_sn (by omega), ah_i_ss]
  refine T_X11_look hs ?_
  rcases c4 with ⟨f18, f19⟩ | ⟨f18, f19⟩ | ⟨f18, f19⟩
  · (first | refine ⟨fun _ => ?_, fun n_ => absurd (f19) n_⟩ | refine ⟨fun n_ => absurd (f19) n_, fun _ => ?_⟩ | refine ⟨fun y_ => absurd y_ (f19), fun _ => ?_⟩ | refine ⟨fun _ => ?_, fun y_ => absurd y_ (f19)⟩)
    obtain ⟨y1, y2⟩ := c8 f18
    obtain ⟨w1, w2, w3⟩ := c9 f19
    obtain ⟨e1, e2, e3⟩ := c7 f19
    subst e1 e2 e3
    exact hq h g (loF_r hs) (by omega) ⟨⟨tw, ⟨c5, by omega, c1, c6 f18, y1.2.2.2.1, tw.1⟩, w1, y1, ws⟩, w2, c2, y2, w3, f18, f19⟩
  · (first | refine ⟨fun _ => ?_, fun n_ => absurd (show ¬ ah_i h 0 19 = 0 by rw [f19]; decide) n_⟩ | refine ⟨fun n_ => absurd (show ¬ ah_i h 0 19 = 0 by rw [f19]; decide) n_, fun _ => ?_⟩ | refine ⟨fun y_ => absurd y_ (show ¬ ah_i h 0 19 = 0 by rw [f19]; decide), fun _ => ?_⟩ | refine ⟨fun _ => ?_, fun y_ => absurd y_ (show ¬ ah_i h 0 19 = 0 by rw [f19]; decide)⟩)
    obtain ⟨y1, y2⟩ := c8 f18
    (first | refine ⟨fun _ => ?_, fun n_ => absurd (f18) n_⟩ | refine ⟨fun n_ => absurd (f18) n_, fun _ => ?_⟩ | refine ⟨fun y_ => absurd y_ (f18), fun _ => ?_⟩ | refine ⟨fun _ => ?_, fun y_ => absurd y_ (f18)⟩)
    exact rest h hs rfl (fun _ _ => eqc_rfl) y1 c2 y2 (fun _ => c6 f18)
  · (first | refine ⟨fun _ => ?_, fun n_ => absurd (show ¬ ah_i h 0 19 = 0 by rw [f19]; decide) n_⟩ | refine ⟨fun n_ => absurd (show ¬ ah_i h 0 19 = 0 by rw [f19]; decide) n_, fun _ => ?_⟩ | refine ⟨fun y_ => absurd y_ (show ¬ ah_i h 0 19 = 0 by rw [f19]; decide), fun _ => ?_⟩ | refine ⟨fun _ => ?_, fun y_ => absurd y_ (show ¬ ah_i h 0 19 = 0 by rw [f19]; decide)⟩)
    (first | refine ⟨fun _ => ?_, fun n_ => absurd (show ¬ ah_i h 0 18 = 0 by rw [f18]; decide) n_⟩ | refine ⟨fun n_ => absurd (show ¬ ah_i h 0 18 = 0 by rw [f18]; decide) n_, fun _ => ?_⟩ | refine ⟨fun y_ => absurd y_ (show ¬ ah_i h 0 18 = 0 by rw [f18]; decide), fun _ => ?_⟩ | refine ⟨fun _ => ?_, fun y_ => absurd y_ (show ¬ ah_i h 0 18 = 0 by rw [f18]; decide)⟩)
    refine c_survey hs ws (fun u su xu eu e29 r29 i12 i13 st => ⟨rfl, su, ?_⟩)
    obtain ⟨k1, r1⟩ := X.2.2.2.2.1 A h u wf ⟨xu, eu, e29, r29, i12, i13⟩ c2
    refine rest u su xu (fun a ha => eu a (by omega) (by omega) (by omega) (by omega) (by omega) (by omega)) st k1 r1 (fun z => ?_)
    rw [(eu 0 (by decide) (by decide) (by decide) (by decide) (by decide) (by decide)).1, f18] at z
    exact absurd z (by decide)
end LK2
