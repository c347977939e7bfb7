/-! ===== caches of guesses and plans; what a lamp would be: the class ===== -/
def Cwk (a j : Nat) : Prop := (a = 54 ∧ j = 3) ∨ a = 58 ∨ a = 60
def Cst (a j : Nat) : Prop := (a = 62 ∧ j = 9) ∨ a = 63 ∨ a = 64
def Ccg (a j : Nat) : Prop := (a = 62 ∧ j = 10) ∨ a = 65 ∨ a = 66
def Cli (a j : Nat) : Prop := (a = 62 ∧ (j = 11 ∨ j = 12)) ∨ a = 67 ∨ a = 68
def Cwo (a j : Nat) : Prop := (a = 62 ∧ j = 4) ∨ a = 69 ∨ a = 70
def Chg (a j : Nat) : Prop := (a = 74 ∧ (j = 0 ∨ j = 1)) ∨ a = 75 ∨ a = 76
def Cpc (a j : Nat) : Prop := a = 74 ∧ (j = 3 ∨ j = 4 ∨ j = 12)
def wxc (a j : Nat) : Prop := Cwk a j ∨ Cst a j ∨ Ccg a j ∨ Cli a j ∨ Cwo a j ∨ Chg a j ∨ Cpc a j
/-- one cache among them -/
def Wp1 (WX cX : (Nat → Nat) → ah_T → Prop) (C : Nat → Nat → Prop) : Prop := (∀ A h, WX A h → cX A h) ∧ ∀ A h h', (∀ a j, wxc a j → ¬ C a j → ah_i h' a j = ah_i h a j) → WX A h → cX A h' → WX A h'
def krF (h h' : ah_T) : Prop := ah_x h ≤ ah_x h' ∧ (∀ a, (a = 29 ∨ a = 32 ∨ a = 36 ∨ a = 37 ∨ (123 ≤ a ∧ a < ah_x h)) → eqc h h' a) ∧ ∀ j, j < 2 → ah_i h' 63 j = ah_i h 63 j ∧ ah_i h' 65 j = ah_i h 65 j
def KRp (KX : ah_T → Prop) (RX : (Nat → Nat) → ah_T → Prop) : Prop := (∀ h h', krF h h' → KX h → KX h') ∧ ∀ A h h', krF h h' → KX h → RX A h → RX A h'
/-- cells off the night, off the machine, off some others -/
def grF (P : Nat → Prop) (h g : ah_T) : Prop := Sh g ∧ ah_x g = ah_x h ∧ (∀ a, (a < 26 ∨ (28 < a ∧ a < 39) ∨ 53 < a) → ¬ P a → eqc h g a) ∧ (wB h → wB g)
section GU
variable {KX : ah_T → Prop} {RX WX SX : (Nat → Nat) → ah_T → Prop} {A : Nat → Nat} {N : Nd} {h g h1 : ah_T} {g0 sp : Nat} {P : Nat → Prop} {cX : (Nat → Nat) → ah_T → Prop} {C : Nat → Nat → Prop}
theorem grF_r (hs : Sh h) : grF P h h := ⟨hs, rfl, fun _ _ _ => eqc_rfl, fun w => w⟩
theorem grF_t (p : grF P h g) (q : grF P g h1) : grF P h h1 := ⟨q.1, by rw [q.2.1, p.2.1], fun a n m => eqc_trans (p.2.2.1 a n m) (q.2.2.1 a n m), fun w => q.2.2.2 (p.2.2.2 w)⟩
theorem grF_y (p : cyF h g) : grF P h g := ⟨p.1, p.2.1, fun a n _ => p.2.2.1 a n, p.2.2.2⟩
theorem grF_e (p : ceN h g) : grF P h g := grF_y (cyF_e p)
theorem grF_s {a j : Nat} {x : Int32} (hp : P a) (ha : 53 < a) (p : grF P h g) : grF P h (ah_si g a j x) := ⟨sh_si p.1, by rw [ah_x_si, p.2.1], fun b n m => eqc_si (p.2.2.1 b n m) (fun z => m (by rw [z]; exact hp)), fun w => wB_of (fun j => ah_i_sn (by omega)) (p.2.2.2 w)⟩
theorem cRn_y {m : Nat} (e : ∀ a, (a < 54 ∨ 82 ≤ a) → eqc h g a) (hx : ah_x g = ah_x h) (c : cRn g0 A N sp m h) : cRn g0 A N sp m g := by
  obtain ⟨fr, ⟨c1, c2, c3, c4⟩, qi⟩ := c
  have ei : ∀ a, (a < 54 ∨ 82 ≤ a) → ∀ j, ah_i g a j = ah_i h a j := fun a n => (e a n).1
  exact ⟨fr, ⟨cTw_fr (fun a ha => ei a (by omega)) c1, tmO_g (fun a ha => e a (by omega)) hx c2, cND_fr (fun a ha => ei a (by omega)) (fun j _ => ei 43 (by omega) j) c3, cNS_fr (fun a ha => ei a (by omega)) (fun j _ => ei 43 (by omega) j) c4⟩, qi⟩
/-- behind a guess -/
theorem lkO_g (K : KRp KX RX) (W : Wp1 WX cX C) (hP : ∀ a, P a → 60 < a ∧ a < 82) (f : grF P h g) (t : tmN g0 A g) (d : cND A (nd0 A) 0 g) (e : ∀ a j, wxc a j → ¬ C a j → ah_i g a j = ah_i h a j) (e2 : ∀ j, j < 2 → ah_i g 63 j = ah_i h 63 j ∧ ah_i g 65 j = ah_i h 65 j) (c : cX A g) (l : lkO KX RX WX g0 A h) : lkO KX RX WX g0 A g := by
  obtain ⟨⟨l1, l2, l3, l4, l5⟩, o, k, r, w, f18, f19⟩ := l
  have fe : ∀ a, (a < 26 ∨ (28 < a ∧ a < 39) ∨ (53 < a ∧ a < 61) ∨ 81 < a) → eqc h g a := fun a n => f.2.2.1 a (by omega) (fun z => by have := hP a z; omega)
  have ei : ∀ a, (a < 26 ∨ (28 < a ∧ a < 39) ∨ (53 < a ∧ a < 61) ∨ 81 < a) → ∀ j, ah_i g a j = ah_i h a j := fun a n => (fe a n).1
  have kr : krF h g := ⟨Nat.le_of_eq f.2.1.symm, fun a n => fe a (by omega), e2⟩
  refine ⟨⟨cTw_fr (fun a ha => ei a (by omega)) l1, t, d, stO_fr (fun a ha => ei a (by omega)) l4, cWs_fr (fe 2 (by omega)) (fe 3 (by omega)) l5⟩, ?_, K.1 _ _ kr k, K.2 _ _ _ kr k r, W.2 _ _ _ e w c, by rw [ei 0 (by omega)]; exact f18, by rw [ei 0 (by omega)]; exact f19⟩
  unfold chO at o ⊢
  rw [ei 54 (by omega)]
  rcases o with y | ⟨y, r, l⟩
  · exact .inl y
  · exact .inr ⟨y, chR_fr (fun b hb => ei b (by omega)) r, chL_fr (ei 59 (by omega)) l⟩
/-- for how long a lamp would be lit by a kind -/
noncomputable def wS (A : Nat → Nat) (l k : Nat) : Nat := cb (fun m => litM A (ndK A l k) m l) 120
theorem wS_le (A : Nat → Nat) (l k : Nat) : wS A l k ≤ 120 := cb_le _ _
/-- the most, and one; by which kind -/
noncomputable def wdF (A : Nat → Nat) (l : Nat) : Nat → Nat × Nat
  | 0 => (0, 0)
  | k + 1 => if (wdF A l k).1 < wS A l k + 1 then (wS A l k + 1, k) else wdF A l k
theorem wdF_s (A : Nat → Nat) (l k : Nat) : wdF A l (k + 1) = if (wdF A l k).1 < wS A l k + 1 then (wS A l k + 1, k) else wdF A l k := rfl
theorem wdF_le (A : Nat → Nat) (l : Nat) : ∀ k, (wdF A l k).1 ≤ 121 ∧ (wdF A l k).2 ≤ k
  | 0 => ⟨by show 0 ≤ 121; omega, by show 0 ≤ 0; omega⟩
  | k + 1 => by
    have ih := wdF_le A l k
    have w := wS_le A l k
    rw [wdF_s]
    split
    · exact ⟨by show wS A l k + 1 ≤ 121; omega, by show k ≤ k + 1; omega⟩
    · exact ⟨ih.1, by omega⟩
theorem wdF_pos (A : Nat → Nat) (l : Nat) : ∀ k, 0 < k → 0 < (wdF A l k).1
  | 0, h => absurd h (by omega)
  | k + 1, _ => by
    rw [wdF_s]
    split
    · show 0 < wS A l k + 1; omega
    · have := wS_le A l k; omega
/-- it would rather be another one -/
def rstB (A : Nat → Nat) (l : Nat) : Prop := wS A l (A (61 + 3 * l)) + 1 < (wdF A l 6).1
def liX (A : Nat → Nat) (h : ah_T) : Prop := (∀ l, l < A 246 → bt (ah_i h 62 11) l = true → ah_i h 67 l = nI (wdF A l 6).2 ∧ ah_i h 68 l = nO (wdF A l 6).1 ∧ (bt (ah_i h 62 12) l = true ↔ rstB A l)) ∧ ∀ i, i < 32 → bt (ah_i h 62 12) i = true → i < A 246 ∧ bt (ah_i h 62 11) i = true
theorem liX_fr (e : ∀ a j, Cli a j → ah_i g a j = ah_i h a j) (l : liX A h) : liX A g := by
  unfold liX at l ⊢
  have e11 := e 62 11 (.inl ⟨rfl, .inl rfl⟩)
  have e12 := e 62 12 (.inl ⟨rfl, .inr rfl⟩)
  have e67 := fun j => e 67 j (.inr (.inl rfl))
  have e68 := fun j => e 68 j (.inr (.inr rfl))
  simp only [e11, e12, e67, e68]
  exact l
def Pli (a : Nat) : Prop := a = 62 ∨ a = 67 ∨ a = 68
theorem c_findLiking {Q : Option Value → ah_T → Prop} (hs : Sh h) (t : cTw A h) (tm : tmN g0 A h) (d : cND A (nd0 A) 0 h) (li : liX A h) {l : Nat} {x1 : Int32} (e1 : x1 = nI l) (hl : l < A 246)
    (hq : ∀ g, grF Pli h g → tmN g0 A g → cND A (nd0 A) 0 g → (∀ j, j ≠ 11 → j ≠ 12 → ah_i g 62 j = ah_i h 62 j) → liX A g → bt (ah_i g 62 11) l = true → (∀ i, i < 32 → bt (ah_i h 62 11) i = true → bt (ah_i g 62 11) i = true) → Q none g) : Mt mX1_findLiking [.ref 62, .int x1] h Q := by
  subst e1
  have wl := t.1.2.2.1
  have w10 := wl.1
  obtain ⟨u1, u2, _⟩ := wl.2 l hl
  have vl : vp_in (nI l) 10 := (vp_nI (by omega)).mpr (by omega)
  refine T_X1_findLiking hs _ ?_
  rw [b_bit _ l (by omega)]
  refine ⟨fun z => ?_, fun z => ?_⟩
  rotate_left
  · exact hq h (grF_r hs) tm d (fun _ _ _ => rfl) li (by cases e : bt (ah_i h 62 11) l; exact absurd e z; rfl) (fun i _ y => y)
  intro h2 q2
  have f2 : grF Pli h h2 := by rw [q2]; exact grF_s (.inl rfl) (by omega) (grF_r hs)
  have i11 : ∀ i, i < 32 → bt (ah_i h2 62 11) i = (bt (ah_i h 62 11) i || decide (i = l)) := fun i hi => by rw [q2, ah_i_ss, b_or, b_1sh (by omega) hi]
  have o2 : ∀ j, j ≠ 11 → ah_i h2 62 j = ah_i h 62 j := fun j n => by rw [q2, ah_i_sn (by omega)]
  have e2 : ∀ a, a ≠ 62 → eqc h h2 a := fun a n => by rw [q2]; exact eqc_si eqc_rfl n
  obtain ⟨own, eown⟩ : ∃ own, own = A (61 + 3 * l) := ⟨_, rfl⟩
  -- kinds, one by one
  have l31 : ∀ (q k : Nat) (u : ah_T) (N : Nd) (sp : Nat), k + q = 6 → grF Pli h u → (∀ j, ah_i u 62 j = ah_i h2 62 j) → (∀ j, j ≠ l → ah_i u 67 j = ah_i h 67 j) → (∀ j, ah_i u 68 j = ah_i h 68 j) → (0 < k → ah_i u 67 l = nI (wdF A l k).2) → cTw A u → tmN g0 A u → cND A N sp u → N.n = A 246 → N.q = A 248 → (sp = 0 ∨ sp = l + 1) → Wp mX1_findLiking Q 0 0 31 [some (.ref 62), some (.int (nI l)), some (.int (nO (wdF A l k).1)), some (.int (nI (if own < k then wS A l own else 0))), some (.int (nI k)), none, none] [] u := by
    intro q
    induction q with
    | zero =>
      intro k u N sp hk fu a62 a67 a68 ak tu tmu du dn dq ds
      have e9 : k = 6 := by omega
      subst e9
      refine T_X1_findLiking_31 fu.1 _ _ _ _ ?_
      (first | refine ⟨fun _ => ?_, fun n_ => absurd (show 6 ≤ nI 6 from nI_le (a := 6) (by omega) (by omega)) n_⟩ | refine ⟨fun n_ => absurd (show 6 ≤ nI 6 from nI_le (a := 6) (by omega) (by omega)) n_, fun _ => ?_⟩ | refine ⟨fun y_ => absurd y_ (show 6 ≤ nI 6 from nI_le (a := 6) (by omega) (by omega)), fun _ => ?_⟩ | refine ⟨fun _ => ?_, fun y_ => absurd y_ (show 6 ≤ nI 6 from nI_le (a := 6) (by omega) (by omega))⟩)
      refine c_dismissN fu.1 tu du (fun g6 c6 d6 _ => ⟨rfl, c6.1, ?_⟩)
      have o6 : own < 6 := by omega
      rw [nI_clamp (show l < 2 ^ 31 by omega), sh_n c6.1 68 10 (by decide) (by decide) rfl, if_pos o6]
      refine ⟨vl, ?_⟩
      intro h10 q10
      have s10 : Sh h10 := by rw [q10]; exact sh_si c6.1
      have b10 : ∀ a, a ≠ 68 → (a < 43 ∨ 53 < a) → ∀ j, ah_i h10 a j = ah_i u a j := fun a n m j => by rw [q10, ah_i_sn (by omega), (c6.2.2 a m).1]
      have f10 : grF Pli h h10 := by rw [q10]; exact grF_s (.inr (.inr rfl)) (by omega) (grF_t fu (grF_e c6))
      have t10 : tmN g0 A h10 := tmO_g (fun a ha => by rw [q10]; exact eqc_si eqc_rfl (by omega)) (by rw [q10]; rfl) (tmO_n c6 tmu)
      have d10 : cND A (nd0 A) 0 h10 := cND_fr (fun a ha j => by rw [q10, ah_i_sn (by omega)]) (fun j _ => by rw [q10, ah_i_sn (by omega)]) d6
      have w121 := (wdF_le A l 6).1
      have wp := wdF_pos A l 6 (by omega)
      have ws := wS_le A l own
      obtain ⟨M, eM⟩ : ∃ M, (wdF A l 6).1 = M + 1 := ⟨(wdF A l 6).1 - 1, by omega⟩
      -- the end
      have fin : ∀ (h14 : ah_T), grF Pli h h14 → tmN g0 A h14 → cND A (nd0 A) 0 h14 → (∀ j, j ≠ 12 → ah_i h14 62 j = ah_i h2 62 j) → (∀ i, i < 32 → (bt (ah_i h14 62 12) i = true ↔ bt (ah_i h 62 12) i = true ∨ (i = l ∧ rstB A l))) → (∀ j, ah_i h14 67 j = ah_i h10 67 j) → (∀ j, ah_i h14 68 j = ah_i h10 68 j) → Q none h14 := by
        intro h14 f14 t14 d14 k62 k12 k67 k68
        refine hq h14 f14 t14 d14 (fun j n1 n2 => by rw [k62 j n2, o2 j n1]) ⟨fun x hx bx => ?_, fun i hi y => ?_⟩ (by rw [k62 11 (by decide), i11 l (by omega), decide_eq_true rfl, Bool.or_true]) (fun i hi y => by rw [k62 11 (by decide), i11 i hi, y, Bool.true_or])
        · rw [k62 11 (by decide), i11 x (by omega)] at bx
          rw [k67, k68]
          by_cases y : x = l
          · subst y
            refine ⟨by rw [b10 67 (by decide) (by omega)]; exact ak (by omega), by rw [q10, ah_i_ss], ?_⟩
            rw [k12 x (by omega)]
            refine ⟨fun w => w.elim (fun w => ?_) (fun w => w.2), fun w => .inr ⟨rfl, w⟩⟩
            have := (li.2 x (by omega) w).2
            rw [z] at this
            exact absurd this (by decide)
          · rw [decide_eq_false y, Bool.or_false] at bx
            obtain ⟨y1, y2, y3⟩ := li.1 x hx bx
            refine ⟨by rw [b10 67 (by decide) (by omega), a67 x y]; exact y1, by rw [q10, ah_i_sn (by omega), (c6.2.2 68 (by omega)).1, a68]; exact y2, ?_⟩
            rw [k12 x (by omega)]
            exact ⟨fun w => w.elim y3.mp (fun w => absurd w.1 y), fun w => .inl (y3.mpr w)⟩
        · rw [k12 i hi] at y
          rw [k62 11 (by decide), i11 i hi]
          rcases y with y | y
          · obtain ⟨y1, y2⟩ := li.2 i hi y
            exact ⟨y1, by rw [y2, Bool.true_or]⟩
          · exact ⟨by omega, by rw [decide_eq_true y.1, Bool.or_true]⟩
      have c62 : ∀ j, ah_i h10 62 j = ah_i h2 62 j := fun j => by rw [b10 62 (by decide) (by omega), a62]
      rw [eM, nO_s]
      by_cases y : M ≤ wS A l own
      · (first | refine ⟨fun _ => ?_, fun n_ => absurd (show nI M ≤ nI (wS A l own) from nI_le y (by omega)) n_⟩ | refine ⟨fun n_ => absurd (show nI M ≤ nI (wS A l own) from nI_le y (by omega)) n_, fun _ => ?_⟩ | refine ⟨fun y_ => absurd y_ (show nI M ≤ nI (wS A l own) from nI_le y (by omega)), fun _ => ?_⟩ | refine ⟨fun _ => ?_, fun y_ => absurd y_ (show nI M ≤ nI (wS A l own) from nI_le y (by omega))⟩)
        refine fin h10 f10 t10 d10 (fun j _ => c62 j) (fun i hi => ?_) (fun _ => rfl) (fun _ => rfl)
        rw [c62, o2 12 (by decide)]
        refine ⟨.inl, fun w => w.elim id (fun w => ?_)⟩
        have : rstB A l := w.2
        unfold rstB at this
        rw [← eown, eM] at this
        omega
      · (first | refine ⟨fun _ => ?_, fun n_ => absurd (show ¬ nI M ≤ nI (wS A l own) from nI_ge (by omega) (by omega)) n_⟩ | refine ⟨fun n_ => absurd (show ¬ nI M ≤ nI (wS A l own) from nI_ge (by omega) (by omega)) n_, fun _ => ?_⟩ | refine ⟨fun y_ => absurd y_ (show ¬ nI M ≤ nI (wS A l own) from nI_ge (by omega) (by omega)), fun _ => ?_⟩ | refine ⟨fun _ => ?_, fun y_ => absurd y_ (show ¬ nI M ≤ nI (wS A l own) from nI_ge (by omega) (by omega))⟩)
        rintro h14 rfl
        refine fin _ (grF_s (.inl rfl) (by omega) f10) (tmO_g (fun a ha => eqc_si eqc_rfl (by omega)) (ah_x_si _ _ _ _) t10) (cND_fr (fun a ha j => ah_i_sn (by omega)) (fun j _ => ah_i_sn (by omega)) d10) (fun j n => by rw [ah_i_sn (by omega)]; exact c62 j) (fun i hi => ?_) (fun j => ah_i_sn (by omega)) (fun j => ah_i_sn (by omega))
        rw [ah_i_ss, b_or, Bool.or_eq_true, b_1sh (by omega) hi, decide_eq_true_eq, c62, o2 12 (by decide)]
        have rs : rstB A l := by
          unfold rstB
          rw [← eown, eM]
          omega
        exact ⟨fun w => w.elim .inl (fun w => .inr ⟨w, rs⟩), fun w => w.elim .inl (fun w => .inr w.1)⟩
    | succ q ih =>
      intro k u N sp hk fu a62 a67 a68 ak tu tmu du dn dq ds
      have hk6 : k < 6 := by omega
      refine T_X1_findLiking_31 fu.1 _ _ _ _ ?_
      (first | refine ⟨fun _ => ?_, fun n_ => absurd (show ¬ 6 ≤ nI k from nI_ge (b := 6) (by omega) (by omega)) n_⟩ | refine ⟨fun n_ => absurd (show ¬ 6 ≤ nI k from nI_ge (b := 6) (by omega) (by omega)) n_, fun _ => ?_⟩ | refine ⟨fun y_ => absurd y_ (show ¬ 6 ≤ nI k from nI_ge (b := 6) (by omega) (by omega)), fun _ => ?_⟩ | refine ⟨fun _ => ?_, fun y_ => absurd y_ (show ¬ 6 ≤ nI k from nI_ge (b := 6) (by omega) (by omega))⟩)
      refine c_disguise fu.1 tu du rfl rfl hl hk6 dn ds dq (fun g1 c1 d1 => ⟨rfl, c1.1, ?_⟩)
      obtain ⟨sp', esp⟩ : ∃ sp', sp' = (if k = A (61 + 3 * l) then 0 else l + 1) := ⟨_, rfl⟩
      rw [← esp] at d1
      have hsp : sp' = 0 ∨ sp' = l + 1 := by rw [esp]; split; exact .inl rfl; exact .inr rfl
      refine c_begin c1.1 (cTw_n c1 tu) (tmO_n c1 tmu) d1 (fun g2 c2 rn _ => ⟨rfl, c2.1, ?_⟩)
      have f2' : grF Pli h g2 := grF_t fu (grF_t (grF_e c1) (grF_e c2))
      have o54 : ∀ a, 53 < a → ∀ j, ah_i g2 a j = ah_i u a j := fun a ha j => by rw [(c2.2.2 a (by omega)).1, (c1.2.2 a (by omega)).1]
      -- minutes
      have l61 : ∀ (q2 m : Nat) (v : ah_T), m + q2 = 120 → grF Pli h v → (∀ a, 53 < a → ∀ j, ah_i v a j = ah_i u a j) → cRn g0 A (ndK A l k) sp' m v → Wp mX1_findLiking Q 0 0 61 [some (.ref 62), some (.int (nI l)), some (.int (nO (wdF A l k).1)), some (.int (nI (if own < k then wS A l own else 0))), some (.int (nI k)), some (.int (nI (cb (fun m => litM A (ndK A l k) m l) m))), some (.int (nI m))] [] v := by
        intro q2
        induction q2 with
        | zero =>
          intro m v hm fv av rn
          have e9 : m = 120 := by omega
          subst e9
          obtain ⟨tv, tmv, dv⟩ := cRn_c rn
          have w121 := (wdF_le A l k).1
          have ws := wS_le A l k
          refine T_X1_findLiking_61 fv.1 _ _ _ _ _ _ ?_
          (first | refine ⟨fun _ => ?_, fun n_ => absurd (show 120 ≤ nI 120 from nI_le (a := 120) (by omega) (by omega)) n_⟩ | refine ⟨fun n_ => absurd (show 120 ≤ nI 120 from nI_le (a := 120) (by omega) (by omega)) n_, fun _ => ?_⟩ | refine ⟨fun y_ => absurd y_ (show 120 ≤ nI 120 from nI_le (a := 120) (by omega) (by omega)), fun _ => ?_⟩ | refine ⟨fun _ => ?_, fun y_ => absurd y_ (show 120 ≤ nI 120 from nI_le (a := 120) (by omega) (by omega))⟩)
          show ((nI (wS A l k) ≤ nO (wdF A l k).1 → _) ∧ (¬ nI (wS A l k) ≤ nO (wdF A l k).1 → _))
          rw [nI_1]
          -- the town's kind
          have as1 : k ≠ own → (if own < k + 1 then wS A l own else 0) = (if own < k then wS A l own else 0) := by
            intro y
            by_cases w : own < k
            · rw [if_pos w, if_pos (by omega)]
            · rw [if_neg w, if_neg (by omega)]
          have as2 : k = own → (if own < k + 1 then wS A l own else 0) = wS A l k := by
            intro y
            rw [if_pos (by omega), ← y]
          have kk := nI_eq (show k < 2 ^ 31 by omega) (show A (61 + 3 * l) < 2 ^ 31 by omega)
          by_cases better : (wdF A l k).1 < wS A l k + 1
          · have nle : ¬ nI (wS A l k) ≤ nO (wdF A l k).1 := by
              rcases Nat.eq_zero_or_pos (wdF A l k).1 with y | y
              · rw [y]
                intro w
                have := Int32.le_iff_toInt_le.mp w
                rw [nI_toInt (by omega)] at this
                have t0 : (nO 0).toInt = -1 := by decide
                rw [t0] at this
                omega
              · rw [show (wdF A l k).1 = ((wdF A l k).1 - 1) + 1 by omega, nO_s]
                exact nI_ge (by omega) (by omega)
            (first | refine ⟨fun _ => ?_, fun n_ => absurd (nle) n_⟩ | refine ⟨fun n_ => absurd (nle) n_, fun _ => ?_⟩ | refine ⟨fun y_ => absurd y_ (nle), fun _ => ?_⟩ | refine ⟨fun _ => ?_, fun y_ => absurd y_ (nle)⟩)
            rw [nI_clamp (show l < 2 ^ 31 by omega), sh_n fv.1 67 10 (by decide) (by decide) rfl]
            refine ⟨vl, ?_⟩
            intro h30 q30
            have f30 : grF Pli h h30 := by rw [q30]; exact grF_s (.inr (.inl rfl)) (by omega) fv
            have e30 : ∀ a, a ≠ 67 → eqc v h30 a := fun a n => by rw [q30]; exact eqc_si eqc_rfl n
            have t30 : cTw A h30 := cTw_fr (fun a ha => (e30 a (by omega)).1) tv
            have tm30 : tmN g0 A h30 := tmO_g (fun a ha => e30 a (by omega)) (by rw [q30]; rfl) tmv
            have d30 : cND A (ndK A l k) sp' h30 := cND_fr (fun a ha => (e30 a (by omega)).1) (fun j _ => (e30 43 (by decide)).1 j) dv
            refine lm_get f30.1 t30.1 rfl (k := 1) rfl hl (by omega) ⟨_, rfl, f30.1, ?_⟩
            rw [show 60 + 3 * l + 1 = 61 + 3 * l by omega, kk, ← eown]
            have wst : wdF A l (k + 1) = (wS A l k + 1, k) := by rw [wdF_s, if_pos better]
            have nx := ih (k + 1) h30 (ndK A l k) sp' (by omega) f30 (fun j => by rw [(e30 62 (by decide)).1, av 62 (by omega), a62]) (fun j n => by rw [q30, ah_i_sn (by omega), av 67 (by omega), a67 j n]) (fun j => by rw [(e30 68 (by decide)).1, av 68 (by omega), a68]) (fun _ => by rw [q30, ah_i_ss, wst]) t30 tm30 d30 rfl rfl hsp
            rw [wst] at nx
            have ex : nO ((wS A l k + 1, k) : Nat × Nat).1 = nI (wS A l k) := nO_s _
            rw [ex] at nx
            refine ⟨fun y => ?_, fun y => ?_⟩
            · rw [as1 y] at nx
              exact nx
            · rw [as2 y] at nx
              exact nx
          · have le : nI (wS A l k) ≤ nO (wdF A l k).1 := by
              rw [show (wdF A l k).1 = ((wdF A l k).1 - 1) + 1 by omega, nO_s]
              exact nI_le (by omega) (by omega)
            (first | refine ⟨fun _ => ?_, fun n_ => absurd (le) n_⟩ | refine ⟨fun n_ => absurd (le) n_, fun _ => ?_⟩ | refine ⟨fun y_ => absurd y_ (le), fun _ => ?_⟩ | refine ⟨fun _ => ?_, fun y_ => absurd y_ (le)⟩)
            refine lm_get fv.1 tv.1 rfl (k := 1) rfl hl (by omega) ⟨_, rfl, fv.1, ?_⟩
            rw [show 60 + 3 * l + 1 = 61 + 3 * l by omega, kk, ← eown]
            have wst : wdF A l (k + 1) = wdF A l k := by rw [wdF_s, if_neg better]
            have kpos : 0 < k := by
              rcases Nat.eq_zero_or_pos k with y | y
              · subst y
                have : (wdF A l 0).1 = 0 := rfl
                omega
              · exact y
            have nx := ih (k + 1) v (ndK A l k) sp' (by omega) fv (fun j => by rw [av 62 (by omega), a62]) (fun j n => by rw [av 67 (by omega), a67 j n]) (fun j => by rw [av 68 (by omega), a68]) (fun _ => by rw [wst, av 67 (by omega)]; exact ak kpos) tv tmv dv rfl rfl hsp
            rw [wst] at nx
            refine ⟨fun y => ?_, fun y => ?_⟩
            · rw [as1 y] at nx
              exact nx
            · rw [as2 y] at nx
              exact nx
        | succ q2 ih2 =>
          intro m v hm fv av rn
          refine T_X1_findLiking_61 fv.1 _ _ _ _ _ _ ?_
          (first | refine ⟨fun _ => ?_, fun n_ => absurd (show ¬ 120 ≤ nI m from nI_ge (b := 120) (by omega) (by omega)) n_⟩ | refine ⟨fun n_ => absurd (show ¬ 120 ≤ nI m from nI_ge (b := 120) (by omega) (by omega)) n_, fun _ => ?_⟩ | refine ⟨fun y_ => absurd y_ (show ¬ 120 ≤ nI m from nI_ge (b := 120) (by omega) (by omega)), fun _ => ?_⟩ | refine ⟨fun _ => ?_, fun y_ => absurd y_ (show ¬ 120 ≤ nI m from nI_ge (b := 120) (by omega) (by omega))⟩)
          refine c_run1 fv.1 rn rfl (by omega) (fun v1 r f1 k1 rn1 hr h7 ho => ⟨_, rfl, f1.1, ?_⟩)
          have eb : bt r l = litM A (ndK A l k) m l := by
            have a := hr l (by omega)
            cases e : litM A (ndK A l k) m l
            · cases e2 : bt r l
              · rfl
              · rw [(a.mp e2).2] at e; exact absurd e (by decide)
            · exact a.mpr ⟨hl, e⟩
          rw [b_val _ (by omega), eb, nI_1]
          have e : nI (cb (fun m => litM A (ndK A l k) m l) m) + bI (litM A (ndK A l k) m l) = nI (cb (fun m => litM A (ndK A l k) m l) (m + 1)) := by
            show _ = nI (cb _ m + (if litM A (ndK A l k) m l = true then 1 else 0))
            cases litM A (ndK A l k) m l
            · exact Int32.add_zero _
            · exact nI_1 _
          rw [e]
          exact ih2 (m + 1) v1 (by omega) (grF_t fv (grF_y f1)) (fun a ha j => by rw [(f1.2.2.1 a (by omega)).1, av a ha]) rn1
      exact l61 120 0 g2 (by omega) f2' o54 rn
  have t2 : cTw A h2 := cTw_fr (fun a ha => (e2 a (by omega)).1) t
  have tm2 : tmN g0 A h2 := tmO_g (fun a ha => e2 a (by omega)) (by rw [q2]; rfl) tm
  have d2 : cND A (nd0 A) 0 h2 := cND_fr (fun a ha => (e2 a (by omega)).1) (fun j _ => (e2 43 (by decide)).1 j) d
  have st := l31 6 0 h2 (nd0 A) 0 (by omega) f2 (fun _ => rfl) (fun j _ => (e2 67 (by decide)).1 j) (e2 68 (by decide)).1 (fun y => absurd y (by omega)) t2 tm2 d2 rfl rfl (.inl rfl)
  rw [if_neg (by omega)] at st
  exact st
end GU
