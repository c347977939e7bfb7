/-! ===== what the kept findings hold; the class looks ===== -/
/-- cells of the other caches are as they were -/
def XF (h h' : ah_T) : Prop := ah_x h ≤ ah_x h' ∧ (∀ a, (a = 29 ∨ a = 32 ∨ a = 36 ∨ a = 37 ∨ a = 58 ∨ (60 ≤ a ∧ a < 82)) → eqc h h' a) ∧ (∀ a, 123 ≤ a → a < ah_x h → ah_k h a = 14 → ah_n h a = 10240 → eqc h h' a) ∧ ∀ j, j ≠ 9 → ah_i h' 54 j = ah_i h 54 j
/-- streets are surveyed -/
def svF (h h' : ah_T) : Prop := ah_x h' = ah_x h ∧ (∀ a, a ≠ 29 → a ≠ 30 → a ≠ 31 → a ≠ 33 → a ≠ 34 → a ≠ 35 → eqc h h' a) ∧ (∀ j, j ≠ 12 → j ≠ 13 → ah_i h' 29 j = ah_i h 29 j) ∧ (∀ j, ah_r h' 29 j = ah_r h 29 j) ∧ ah_i h' 29 12 = 0 ∧ ah_i h' 29 13 = -1
/-- all is forgotten -/
def fgF (h h' : ah_T) : Prop := ah_x h' = ah_x h ∧ (∀ a, a ≠ 54 → a ≠ 60 → a ≠ 62 → a ≠ 70 → a ≠ 74 → a ≠ 76 → eqc h h' a) ∧ (∀ j, j ≠ 9 → ah_i h' 54 j = ah_i h 54 j) ∧ (∀ j, j ≠ 9 → j ≠ 10 → j ≠ 11 → j ≠ 12 → ah_i h' 62 j = ah_i h 62 j) ∧ (∀ j, j ≠ 12 → ah_i h' 74 j = ah_i h 74 j) ∧ ah_i h' 54 9 = 0 ∧ ah_i h' 60 0 = -1 ∧ ah_i h' 62 9 = 0 ∧ ah_i h' 62 10 = 0 ∧ ah_i h' 62 11 = 0 ∧ ah_i h' 62 12 = 0 ∧ ah_i h' 70 0 = -1 ∧ ah_i h' 76 0 = -1 ∧ ah_i h' 74 12 = 0
def XP (KX : ah_T → Prop) (RX WX : (Nat → Nat) → ah_T → Prop) : Prop :=
  (∀ h h', XF h h' → KX h → KX h') ∧ (∀ A h h', XF h h' → KX h → RX A h → RX A h') ∧ (∀ A h h', XF h h' → KX h → WX A h → WX A h') ∧
  (∀ A A' h, (∀ j, j < 90 → A' j = A j) → A' 245 = A 245 → A' 246 = A 246 → RX A h → RX A' h) ∧
  (∀ A h h', WF A → svF h h' → KX h → KX h' ∧ RX A h') ∧ ∀ A h h', fgF h h' → KX h → KX h' ∧ WX A h' ∧ (RX A h → RX A h')
/-- what the class keeps -/
def CCg (KX : ah_T → Prop) (RX WX : (Nat → Nat) → ah_T → Prop) (A : Nat → Nat) (h : ah_T) : Prop := wB h ∧ KX h ∧ ah_i h 43 15 = -1 ∧ ((ah_i h 0 18 = 0 ∧ ah_i h 0 19 = 0) ∨ (ah_i h 0 18 = 0 ∧ ah_i h 0 19 = 1) ∨ (ah_i h 0 18 = 1 ∧ ah_i h 0 19 = 1)) ∧
  (∃ (L : Option (List Cl)) (wi mo g : Nat), tpO L wi mo g h ∧ (ah_i h 0 18 = 0 → hfO L wi mo A h) ∧ (ah_i h 0 19 = 0 → L = lawL A ∧ wi = A 242 ∧ mo = A 244)) ∧
  (ah_i h 0 18 = 0 → stO A h ∧ RX A h) ∧ (ah_i h 0 19 = 0 → cND A (nd0 A) 0 h ∧ chO A h ∧ WX A h)
/-- what holds behind a look -/
def lkO (KX : ah_T → Prop) (RX WX : (Nat → Nat) → ah_T → Prop) (g0 : Nat) (A : Nat → Nat) (h : ah_T) : Prop := cor g0 A h ∧ chO A h ∧ KX h ∧ RX A h ∧ WX A h ∧ ah_i h 0 18 = 0 ∧ ah_i h 0 19 = 0
section LO
variable {KX : ah_T → Prop} {RX WX : (Nat → Nat) → ah_T → Prop} {A A' : Nat → Nat} {h h' g : ah_T} {g0 : Nat}
theorem XF_ag (a : agC h h') : XF h h' := ⟨a.2.2.1, fun b hb => a.1 b (by omega) (by omega), fun b h1 h2 h3 h4 => a.2.2.2.1 b h1 h2 h3 h4, fun j _ => (a.1 54 (by omega) (by omega)).1 j⟩
theorem XF_of (hx : ah_x h ≤ ah_x h') (e : ∀ a, (a = 29 ∨ a = 32 ∨ a = 36 ∨ a = 37 ∨ a = 58 ∨ (60 ≤ a ∧ a < 82) ∨ 123 ≤ a) → eqc h h' a) (e2 : ∀ j, j ≠ 9 → ah_i h' 54 j = ah_i h 54 j) : XF h h' := ⟨hx, fun a ha => e a (by omega), fun a h1 _ _ _ => e a (by omega), e2⟩
theorem XF_ch (f : chF h h') : XF h h' := XF_of (Nat.le_of_eq f.2.1.symm) (fun a ha => f.2.2.1 a (by omega)) f.2.2.2.1
theorem XF_ce (f : ceN h h') : XF h h' := XF_of (Nat.le_of_eq f.2.1.symm) (fun a ha => f.2.2 a (by omega)) (fun j _ => (f.2.2 54 (by omega)).1 j)
theorem XF_hd (f : hdF h h') : XF h h' := XF_of (Nat.le_of_eq f.2.1.symm) (fun a ha => f.2.2 a (by omega) (by omega) (by omega) (by omega)) (fun j _ => (f.2.2 54 (by omega) (by omega) (by omega) (by omega)).1 j)
theorem lkO_ch (X : XP KX RX WX) (f : chF h h') (c : cor g0 A h') (o : chO A h') (f0 : ah_i h' 0 18 = ah_i h 0 18 ∧ ah_i h' 0 19 = ah_i h 0 19) (l : lkO KX RX WX g0 A h) : lkO KX RX WX g0 A h' := by
  obtain ⟨l1, l2, l3, l4, l5, l6, l7⟩ := l
  have xf := XF_ch f
  exact ⟨c, o, X.1 _ _ xf l3, X.2.1 _ _ _ xf l3 l4, X.2.2.1 _ _ _ xf l3 l5, by rw [f0.1]; exact l6, by rw [f0.2]; exact l7⟩
theorem lkO_cc (l : lkO KX RX WX g0 A h) : CCg KX RX WX A h := by
  obtain ⟨⟨c1, c2, c3, c4, c5⟩, l2, l3, l4, l5, l6, l7⟩ := l
  have e15 : ah_i h 43 15 = -1 := c3.2.2.2.2.1
  exact ⟨c2.2.2.1, l3, e15, .inl ⟨l6, l7⟩, ⟨_, _, _, g0, c2.1, fun _ => c2.2.2.2.1, fun _ => ⟨rfl, rfl, rfl⟩⟩, fun _ => ⟨c4, l4⟩, fun _ => ⟨c3, l2, l5⟩⟩
/-- tempers where only texts of laws are sure to stay -/
theorem tp_ag {L : Option (List Cl)} {wi mo g : Nat} (a : agC h h') (tp : tpO L wi mo g h) : tpO L wi mo g h' := by
  obtain ⟨t1, t2, t3, t4, t5, t6, t7⟩ := tp
  have e38 := a.1 38 (by omega) (by omega)
  have e39 := a.1 39 (by omega) (by omega)
  refine ⟨?_, by rw [e38.1]; exact t2, by rw [e38.1]; exact t3, by rw [e38.2.1]; exact t4, t5, t6, fun p hp => ?_⟩
  · cases L with
    | none => exact (e38.2.2.1 3).trans t1
    | some cls =>
      obtain ⟨x, ex, tt, hL⟩ := t1
      exact ⟨x, by rw [e38.2.2.1]; exact ex, tx_fr (a.2.1 x tt.1.1 tt.1.2.2 tt.1.2.1) a.2.2.1 tt, hL⟩
  · obtain ⟨e, q1, q2, q3⟩ := t7 p hp
    refine ⟨e, by rw [e39.2.1]; exact q1, q2, fun cls x eL ex => ?_⟩
    rw [e38.2.2.1] at ex
    subst eL
    obtain ⟨y, ey, tt, hL⟩ := t1
    have exy : x = y := Option.some.inj (ex.symm.trans ey)
    subst exy
    have e3 := (a.2.1 x tt.1.1 tt.1.2.2 tt.1.2.1 3 (by omega)).1
    simp only [e3]
    exact q3 cls x rfl ex
theorem usd_ag {L : Option (List Cl)} (a : agC h h') (l0 : lwO L h) (what : Nat) : usd h' what = usd h what := by
  unfold usd
  rw [(a.1 38 (by omega) (by omega)).2.2.1]
  cases z : ah_r h 38 3 with
  | none => rfl
  | some x =>
    cases L with
    | none =>
      have l1 : ah_r h 38 3 = none := l0
      rw [z] at l1; cases l1
    | some cls =>
      obtain ⟨y, ey, tt, hL⟩ := l0
      have exy : x = y := Option.some.inj (z.symm.trans ey)
      subst exy
      exact (a.2.1 x tt.1.1 tt.1.2.2 tt.1.2.1 3 (by omega)).1 what
theorem hf_ag {L : Option (List Cl)} {wi mo : Nat} (a : agC h h') (l0 : lwO L h) (t : hfO L wi mo A h) : hfO L wi mo A h' := by
  unfold hfO at t ⊢
  simp only [usd_ag a l0, (a.1 40 (by omega) (by omega)).1, (a.1 41 (by omega) (by omega)).1, (a.1 42 (by omega) (by omega)).1]
  exact t
/-- only ways and lamps matter -/
theorem Ew_A (e : ∀ j, j < 90 → A' j = A j) (e5 : A' 245 = A 245) (h20 : A 245 ≤ 20) : Ew A' noS = Ew A noS ∧ Ew A' (shS A') = Ew A (shS A) := by
  have key : ∀ (s s' : Nat → Prop), (∀ v, v < A 245 → (s' v ↔ s v)) → Ew A' s' = Ew A s := by
    intro s s' hs
    refine funext fun a => funext fun b => propext ?_
    show EB A' s' (A' 245) a b ↔ EB A s (A 245) a b
    unfold EB
    rw [e5]
    constructor
    · rintro ⟨v, y1, y2, y3⟩
      rw [e _ (by omega), e _ (by omega)] at y3
      exact ⟨v, y1, fun z => y2 ((hs v y1).mpr z), y3⟩
    · rintro ⟨v, y1, y2, y3⟩
      refine ⟨v, y1, fun z => y2 ((hs v y1).mp z), ?_⟩
      rw [e _ (by omega), e _ (by omega)]
      exact y3
  refine ⟨key _ _ (fun v _ => Iff.rfl), key _ _ (fun v hv => ?_)⟩
  show A' (3 * v + 2) = 1 ↔ A (3 * v + 2) = 1
  rw [e _ (by omega)]
theorem stO_A (e : ∀ j, j < 90 → A' j = A j) (e5 : A' 245 = A 245) (h20 : A 245 ≤ 20) (s : stO A h) : stO A' h := by
  obtain ⟨q1, q2⟩ := Ew_A e e5 h20
  unfold stO at s ⊢
  rw [q1, q2]
  exact s
theorem hf_A {L : Option (List Cl)} {wi mo : Nat} (e : ∀ j, j < 90 → A' j = A j) (e5 : A' 245 = A 245) (e6 : A' 246 = A 246) (h20 : A 245 ≤ 20) (h10 : A 246 ≤ 10) (t : hfO L wi mo A h) : hfO L wi mo A' h := by
  obtain ⟨q1, q2⟩ := Ew_A e e5 h20
  have sg : ∀ a b, sgv A' a b = sgv A a b := fun a b => by unfold sgv; rw [q2]
  obtain ⟨t1, t2, t3⟩ := t
  refine ⟨fun mi la l h1 h2 h3 => ?_, fun mi k c h1 h2 h3 => ?_, fun mi l h1 h2 => ?_⟩
  · rw [e6] at h3
    rcases t1 mi la l h1 h2 h3 with y | y
    · exact .inl y
    · refine .inr (fun i hi => (y i hi).trans ?_)
      rw [e6, e (61 + 3 * l) (by omega), e (60 + 3 * l) (by omega)]
      constructor
      · rintro ⟨z1, z2, z3⟩
        refine ⟨z1, z2, ?_⟩
        rw [sg, e (61 + 3 * i) (by omega), e (60 + 3 * i) (by omega)]
        exact z3
      · rintro ⟨z1, z2, z3⟩
        refine ⟨z1, z2, ?_⟩
        rw [sg, e (61 + 3 * i) (by omega), e (60 + 3 * i) (by omega)] at z3
        exact z3
  · rcases t2 mi k c h1 h2 h3 with y | y
    · exact .inl y
    · refine .inr (fun i hi => (y i hi).trans ?_)
      rw [e6]
      constructor
      · rintro ⟨z1, z3⟩
        refine ⟨z1, ?_⟩
        rw [sg, e (61 + 3 * i) (by omega), e (60 + 3 * i) (by omega)]
        exact z3
      · rintro ⟨z1, z3⟩
        refine ⟨z1, ?_⟩
        rw [sg, e (61 + 3 * i) (by omega), e (60 + 3 * i) (by omega)] at z3
        exact z3
  · rw [e6] at h2
    rcases t3 mi l h1 h2 with y | y
    · exact .inl y
    · refine .inr ?_
      rw [y]
      unfold thV
      rw [e (61 + 3 * l) (by omega)]
theorem CCg_p (X : XP KX RX WX) (hW : ∀ A h, KX h → RX A h → A 245 ≤ 20 ∧ A 246 ≤ 10) : CCp (CCg KX RX WX) := by
  refine ⟨fun A h h' c a f18 f19 => ?_, fun A A' h h' c a f18 f19 => ?_, fun A A' h h' c a f18 f19 e e5 e6 => ?_⟩
  · obtain ⟨c1, c2, c3, c4, ⟨L, wi, mo, g, c5, c6, c7⟩, c8, c9⟩ := c
    have xf := XF_ag a
    have e : ∀ b, 29 ≤ b → b < 82 → ∀ j, ah_i h' b j = ah_i h b j := fun b h1 h2 => (a.1 b h1 h2).1
    refine ⟨a.2.2.2.2 c1, X.1 _ _ xf c2, by rw [e 43 (by omega) (by omega)]; exact c3, by rw [f18, f19]; exact c4, ⟨L, wi, mo, g, tp_ag a c5, fun z => hf_ag a c5.1 (c6 (by rw [← f18]; exact z)), fun z => c7 (by rw [← f19]; exact z)⟩, fun z => ?_, fun z => ?_⟩
    · obtain ⟨y1, y2⟩ := c8 (by rw [← f18]; exact z)
      exact ⟨stO_fr (fun b hb => e b (by omega) (by omega)) y1, X.2.1 _ _ _ xf c2 y2⟩
    · obtain ⟨y1, y2, y3⟩ := c9 (by rw [← f19]; exact z)
      refine ⟨cND_fr (fun b hb => e b (by omega) (by omega)) (fun j _ => e 43 (by omega) (by omega) j) y1, ?_, X.2.2.1 _ _ _ xf c2 y3⟩
      unfold chO at y2 ⊢
      rw [e 54 (by omega) (by omega)]
      rcases y2 with y | ⟨y, r, l⟩
      · exact .inl y
      · exact .inr ⟨y, chR_fr (fun b hb => e b (by omega) (by omega)) r, chL_fr (e 59 (by omega) (by omega)) l⟩
  · obtain ⟨c1, c2, c3, c4, ⟨L, wi, mo, g, c5, c6, c7⟩, c8, c9⟩ := c
    have xf := XF_ag a
    have e : ∀ b, 29 ≤ b → b < 82 → ∀ j, ah_i h' b j = ah_i h b j := fun b h1 h2 => (a.1 b h1 h2).1
    refine ⟨a.2.2.2.2 c1, X.1 _ _ xf c2, by rw [e 43 (by omega) (by omega)]; exact c3, .inr (.inr ⟨f18, f19⟩), ⟨L, wi, mo, g, tp_ag a c5, fun z => ?_, fun z => ?_⟩, fun z => ?_, fun z => ?_⟩
    · rw [f18] at z; exact absurd z (by decide)
    · rw [f19] at z; exact absurd z (by decide)
    · rw [f18] at z; exact absurd z (by decide)
    · rw [f19] at z; exact absurd z (by decide)
  · obtain ⟨c1, c2, c3, c4, ⟨L, wi, mo, g, c5, c6, c7⟩, c8, c9⟩ := c
    have xf := XF_ag a
    have ee : ∀ b, 29 ≤ b → b < 82 → ∀ j, ah_i h' b j = ah_i h b j := fun b h1 h2 => (a.1 b h1 h2).1
    refine ⟨a.2.2.2.2 c1, X.1 _ _ xf c2, by rw [ee 43 (by omega) (by omega)]; exact c3, ?_, ⟨L, wi, mo, g, tp_ag a c5, fun z => ?_, fun z => ?_⟩, fun z => ?_, fun z => ?_⟩
    · rw [f18, f19]
      rcases c4 with y | y | y
      · exact .inr (.inl ⟨y.1, rfl⟩)
      · exact .inr (.inl ⟨y.1, rfl⟩)
      · exact .inr (.inr ⟨y.1, rfl⟩)
    · have z' : ah_i h 0 18 = 0 := by rw [← f18]; exact z
      obtain ⟨y1, y2⟩ := c8 z'
      obtain ⟨w1, w2⟩ := hW A h c2 y2
      exact hf_A e e5 e6 w1 w2 (hf_ag a c5.1 (c6 z'))
    · rw [f19] at z; exact absurd z (by decide)
    · have z' : ah_i h 0 18 = 0 := by rw [← f18]; exact z
      obtain ⟨y1, y2⟩ := c8 z'
      obtain ⟨w1, w2⟩ := hW A h c2 y2
      exact ⟨stO_A e e5 w1 (stO_fr (fun b hb => ee b (by omega) (by omega)) y1), X.2.2.2.1 _ _ _ e e5 e6 (X.2.1 _ _ _ xf c2 y2)⟩
    · rw [f19] at z; exact absurd z (by decide)
end LO
