/-! ===== walks by light or dark: sets of corners ===== -/
def Sb (v : Int32) (P : Nat → Prop) : Prop := ∀ i, i < 32 → (bt v i = true ↔ P i)
def arnd (A : Nat → Nat) (P : Nat → Prop) (i : Nat) : Prop := P i ∨ ∃ j, P j ∧ Ew A noS j i
def fnP (A : Nat → Nat) (b : Bool) (m i : Nat) : Prop := i < 12 ∧ brP A (nd0 A) (litM A (nd0 A) m) m i = b
def fwD (A : Nat → Nat) (b : Bool) (f m : Nat) : Nat → Nat → Prop
  | 0, i => i = f ∧ fnP A b m i
  | d + 1, i => arnd A (fwD A b f m d) i ∧ fnP A b (m + (d + 1)) i
def ldS (A : Nat → Nat) (b : Bool) (m t e : Nat) : Nat → Nat → Prop
  | 0, i => i = t
  | r + 1, i => arnd A (ldS A b m t e r) i ∧ fnP A b (m + (e - (r + 1))) i
def wkE (A : Nat → Nat) (b : Bool) (f m t e : Nat) : Prop := m + e < 120 ∧ fwD A b f m e t ∧ ∀ d, d < e → ¬ fwD A b f m d t
def lsO (P : Nat → Prop) (x : Nat) : Prop := x < 12 ∧ P x ∧ ∀ j, j < x → ¬ P j
def rowO (A : Nat → Nat) (b : Bool) (f m t e : Nat) (a : Nat → Nat) : Prop := a 0 = f ∧ ∀ d, d < e → lsO (fun i => arnd A (fun x => x = a d) i ∧ ldS A b m t e (e - (d + 1)) i) (a (d + 1))
section WK
variable {A : Nat → Nat} {h g h1 : ah_T} {g0 n c f m t e d : Nat} {b : Bool} {P P' : Nat → Prop}
theorem Ew_sym {x y : Nat} (w : Ew A noS x y) : Ew A noS y x := by
  obtain ⟨v, h1, h2, h3⟩ := w
  exact ⟨v, h1, h2, h3.symm⟩
theorem arnd_mono (q : ∀ i, P i → P' i) {i : Nat} (w : arnd A P i) : arnd A P' i := by
  rcases w with y | ⟨j, y1, y2⟩
  · exact .inl (q i y)
  · exact .inr ⟨j, q j y1, y2⟩
theorem arnd_at {i : Nat} : arnd A P i ↔ ∃ j, P j ∧ (j = i ∨ Ew A noS j i) := by
  constructor
  · rintro (y | ⟨j, y1, y2⟩)
    · exact ⟨i, y, .inl rfl⟩
    · exact ⟨j, y1, .inr y2⟩
  · rintro ⟨j, y1, y2 | y2⟩
    · subst y2; exact .inl y1
    · exact .inr ⟨j, y1, y2⟩
theorem arnd_lt (w : ∀ v, v < A 245 → A (3 * v) < A (3 * v + 1) ∧ A (3 * v + 1) < 12) (q : ∀ i, P i → i < 12) {i : Nat} (y : arnd A P i) : i < 12 := by
  rcases y with y | ⟨j, _, y2⟩
  · exact q i y
  · exact (Ew_in w _ _ y2).2
theorem fwD_fn : ∀ d {i : Nat}, fwD A b f m d i → fnP A b (m + d) i
  | 0, _, y => y.2
  | _ + 1, _, y => y.2
theorem ldS_fn (he : fwD A b f m e t) : ∀ r, r ≤ e → ∀ {i : Nat}, ldS A b m t e r i → fnP A b (m + (e - r)) i
  | 0, _, i, y => by
    have y2 : i = t := y
    rw [y2]
    exact fwD_fn e he
  | _ + 1, _, _, y => y.2
theorem lsO_u {x y : Nat} (p : lsO P x) (q : lsO P y) : x = y := by
  rcases Nat.lt_trichotomy x y with z | z | z
  · exact absurd p.2.1 (q.2.2 x z)
  · exact z
  · exact absurd q.2.1 (p.2.2 y z)
theorem lsO_ex {P : Nat → Prop} (q : ∃ i, i < 12 ∧ P i) : ∃ x, lsO P x := by
  obtain ⟨i, hi, y⟩ := q
  have key : ∀ k, k ≤ 12 → (∃ x, x < k ∧ lsO P x) ∨ ∀ j, j < k → ¬ P j := by
    intro k
    induction k with
    | zero => exact fun _ => .inr (fun j hj => absurd hj (by omega))
    | succ k ih =>
      intro hk
      rcases ih (by omega) with ⟨x, x1, x2⟩ | no
      · exact .inl ⟨x, by omega, x2⟩
      · by_cases z : P k
        · exact .inl ⟨k, by omega, by omega, z, no⟩
        · refine .inr (fun j hj => ?_)
          by_cases w : j = k
          · rw [w]; exact z
          · exact no j (by omega)
  rcases key 12 (by omega) with ⟨x, _, x2⟩ | no
  · exact ⟨x, x2⟩
  · exact absurd y (no i hi)
theorem rowO_u {a a' : Nat → Nat} (p : rowO A b f m t e a) (q : rowO A b f m t e a') : ∀ d, d ≤ e → a d = a' d
  | 0, _ => by rw [p.1, q.1]
  | d + 1, hd => by
    have ih := rowO_u p q d (by omega)
    have p2 := p.2 d (by omega)
    rw [ih] at p2
    exact lsO_u p2 (q.2 d (by omega))
/-- from each minute some corner both comes from the first and leads to the last -/
theorem both_ex (w : wkE A b f m t e) : ∀ r, r ≤ e → ∃ i, fwD A b f m (e - r) i ∧ ldS A b m t e r i
  | 0, _ => ⟨t, w.2.1, rfl⟩
  | r + 1, hr => by
    obtain ⟨i, y1, y2⟩ := both_ex w r (by omega)
    rw [show e - r = (e - (r + 1)) + 1 by omega] at y1
    obtain ⟨y3, y4⟩ := y1
    obtain ⟨j, z1, z2⟩ := arnd_at.mp y3
    refine ⟨j, z1, arnd_at.mpr ⟨i, y2, ?_⟩, fwD_fn _ z1⟩
    rcases z2 with z | z
    · exact .inl z.symm
    · exact .inr (Ew_sym z)
theorem lead_0 (w : wkE A b f m t e) : ldS A b m t e e f := by
  obtain ⟨i, y1, y2⟩ := both_ex w e (Nat.le_refl _)
  rw [Nat.sub_self] at y1
  rw [← y1.1]
  exact y2
/-- and so a row is laid -/
theorem rowO_in (w : wkE A b f m t e) {a : Nat → Nat} {D : Nat} (hD : D ≤ e) (a0 : a 0 = f) (p : ∀ d, d < D → lsO (fun i => arnd A (fun x => x = a d) i ∧ ldS A b m t e (e - (d + 1)) i) (a (d + 1))) : ∀ d, d ≤ D → fwD A b f m d (a d) ∧ ldS A b m t e (e - d) (a d)
  | 0, _ => by
    have l0 := lead_0 w
    rw [a0, Nat.sub_zero]
    refine ⟨?_, l0⟩
    obtain ⟨i, y1, y2⟩ := both_ex w e (Nat.le_refl _)
    rw [Nat.sub_self] at y1
    have : i = f := y1.1
    rw [this] at y1
    exact y1
  | d + 1, hd => by
    obtain ⟨i1, i2⟩ := rowO_in w hD a0 p d (by omega)
    obtain ⟨p1, ⟨p2, p3⟩, _⟩ := p d (by omega)
    refine ⟨⟨arnd_mono (fun i y => by rw [y]; exact i1) p2, ?_⟩, p3⟩
    have := ldS_fn w.2.1 (e - (d + 1)) (by omega) p3
    rw [show e - (e - (d + 1)) = d + 1 by omega] at this
    exact this
theorem next_ex (w : wkE A b f m t e) {x : Nat} (hd : d < e) (y1 : fwD A b f m d x) (y2 : ldS A b m t e (e - d) x) : ∃ z, lsO (fun i => arnd A (fun y => y = x) i ∧ ldS A b m t e (e - (d + 1)) i) z := by
  rw [show e - d = (e - (d + 1)) + 1 by omega] at y2
  obtain ⟨y3, _⟩ := y2
  obtain ⟨j, z1, z2⟩ := arnd_at.mp y3
  have fj := ldS_fn w.2.1 (e - (d + 1)) (by omega) z1
  refine lsO_ex ⟨j, fj.1, arnd_at.mpr ⟨x, rfl, ?_⟩, z1⟩
  rcases z2 with z | z
  · exact .inl z.symm
  · exact .inr (Ew_sym z)
/-- what comes from the first and leads to the last, minute by minute back -/
theorem cs_step (w : wkE A b f m t e) {r : Nat} (hr : r + 1 ≤ e) (i : Nat) : (fwD A b f m (e - (r + 1)) i ∧ arnd A (fun j => fwD A b f m (e - r) j ∧ ldS A b m t e r j) i) ↔ fwD A b f m (e - (r + 1)) i ∧ ldS A b m t e (r + 1) i := by
  constructor
  · rintro ⟨y1, y2⟩
    exact ⟨y1, arnd_mono (fun j y => y.2) y2, fwD_fn _ y1⟩
  · rintro ⟨y1, y2, _⟩
    refine ⟨y1, ?_⟩
    obtain ⟨j, z1, z2⟩ := arnd_at.mp y2
    have fj := ldS_fn w.2.1 r (by omega) z1
    refine arnd_at.mpr ⟨j, ⟨?_, z1⟩, z2⟩
    rw [show e - r = (e - (r + 1)) + 1 by omega] at fj ⊢
    refine ⟨arnd_at.mpr ⟨i, y1, ?_⟩, fj⟩
    rcases z2 with z | z
    · exact .inl z.symm
    · exact .inr (Ew_sym z)
theorem c_around {Q : Option Value → ah_T → Prop} (hs : Sh h) (nb : nbO (Ew A noS) h 30) {v : Int32} (s : Sb v P) (p12 : ∀ i, P i → i < 12) (hq : ∀ r, Sb r (arnd A P) → Q (some (.int r)) h) : Mt mX6_around [.ref 29, .int v] h Q := by
  have lp : ∀ (q k : Nat) (r : Int32), k + q = 12 → (∀ i, i < 32 → (bt r i = true ↔ P i ∨ ∃ j, j < k ∧ P j ∧ Ew A noS j i)) → Wp mX6_around Q 0 0 4 [some (.ref 29), some (.int v), some (.int r), some (.int (nI k))] [] h := by
    intro q
    induction q with
    | zero =>
      intro k r hk br
      have e9 : k = 12 := by omega
      subst e9
      refine T_X6_around_4 hs _ _ _ ?_
      (first | refine ⟨fun _ => ?_, fun n_ => absurd (show 12 ≤ nI 12 from nI_le (a := 12) (by omega) (by omega)) n_⟩ | refine ⟨fun n_ => absurd (show 12 ≤ nI 12 from nI_le (a := 12) (by omega) (by omega)) n_, fun _ => ?_⟩ | refine ⟨fun y_ => absurd y_ (show 12 ≤ nI 12 from nI_le (a := 12) (by omega) (by omega)), fun _ => ?_⟩ | refine ⟨fun _ => ?_, fun y_ => absurd y_ (show 12 ≤ nI 12 from nI_le (a := 12) (by omega) (by omega))⟩)
      refine hq r (fun i hi => (br i hi).trans ?_)
      constructor
      · rintro (y | ⟨j, _, y1, y2⟩)
        · exact .inl y
        · exact .inr ⟨j, y1, y2⟩
      · rintro (y | ⟨j, y1, y2⟩)
        · exact .inl y
        · exact .inr ⟨j, p12 j y1, y1, y2⟩
    | succ q ih =>
      intro k r hk br
      refine T_X6_around_4 hs _ _ _ ?_
      (first | refine ⟨fun _ => ?_, fun n_ => absurd (show ¬ 12 ≤ nI k from nI_ge (b := 12) (by omega) (by omega)) n_⟩ | refine ⟨fun n_ => absurd (show ¬ 12 ≤ nI k from nI_ge (b := 12) (by omega) (by omega)) n_, fun _ => ?_⟩ | refine ⟨fun y_ => absurd y_ (show ¬ 12 ≤ nI k from nI_ge (b := 12) (by omega) (by omega)), fun _ => ?_⟩ | refine ⟨fun _ => ?_, fun y_ => absurd y_ (show ¬ 12 ≤ nI k from nI_ge (b := 12) (by omega) (by omega))⟩)
      rw [b_bit _ k (by omega), nI_1, nI_clamp (show k < 2 ^ 31 by omega), sh_n hs 30 12 (by decide) (by decide) rfl]
      refine ⟨fun y => ih (k + 1) r (by omega) (fun i hi => (br i hi).trans ?_), fun y => ⟨(vp_nI (by omega)).mpr (by omega), ih (k + 1) _ (by omega) (fun i hi => ?_)⟩⟩
      · have nk : ¬ P k := fun w => by rw [(s k (by omega)).mpr w] at y; exact absurd y (by decide)
        constructor
        · rintro (z | ⟨j, z1, z2⟩)
          · exact .inl z
          · exact .inr ⟨j, by omega, z2⟩
        · rintro (z | ⟨j, z1, z2, z3⟩)
          · exact .inl z
          · by_cases w : j = k
            · subst w; exact absurd z2 nk
            · exact .inr ⟨j, by omega, z2, z3⟩
      · have pk : P k := (s k (by omega)).mp (by cases w : bt v k; exact absurd w y; rfl)
        rw [b_or, Bool.or_eq_true, br i hi, nb k (by omega) i hi]
        constructor
        · rintro ((z | ⟨j, z1, z2⟩) | z)
          · exact .inl z
          · exact .inr ⟨j, by omega, z2⟩
          · exact .inr ⟨k, by omega, pk, z⟩
        · rintro (z | ⟨j, z1, z2, z3⟩)
          · exact .inl (.inl z)
          · by_cases w : j = k
            · subst w; exact .inr z3
            · exact .inl (.inr ⟨j, by omega, z2, z3⟩)
  exact T_X6_around hs _ (lp 12 0 v (by omega) (fun i hi => (s i hi).trans ⟨fun y => .inl y, fun y => y.elim id (fun ⟨j, z, _⟩ => absurd z (by omega))⟩))
theorem m_besides {Q : Option Value → ah_T → Prop} (hs : Sh h) (w : mWy A h) {v : Int32} (s : Sb v P) (hq : ∀ r, Sb r (arnd A P) → Q (some (.int r)) h) : Mt mX12_besides [.ref 82, .int v] h Q := by
  obtain ⟨a1, a2, a3⟩ := w
  have t245 : Int32.toNatClampNeg 245 = 245 := rfl
  have i0 : ∀ v, (0 : Int32) + 3 * nI v = nI (3 * v) := fun v => by rw [show (3 : Int32) = nI 3 from rfl, nI_mul]; exact Int32.zero_add _
  have lp : ∀ (q k : Nat) (r : Int32), k + q = A 245 → (∀ i, i < 32 → (bt r i = true ↔ P i ∨ ∃ j, P j ∧ EB A noS k j i)) → Wp mX12_besides Q 0 0 4 [some (.ref 82), some (.int v), some (.int r), some (.int (nI k))] [] h := by
    intro q
    induction q with
    | zero =>
      intro k r hk br
      have e9 : k = A 245 := by omega
      subst e9
      refine T_X12_besides_4 hs _ _ _ ?_
      rw [t245, a1]
      (first | refine ⟨fun _ => ?_, fun n_ => absurd (show nI (A 245) ≤ nI (A 245) from nI_le (Nat.le_refl _) (by omega)) n_⟩ | refine ⟨fun n_ => absurd (show nI (A 245) ≤ nI (A 245) from nI_le (Nat.le_refl _) (by omega)) n_, fun _ => ?_⟩ | refine ⟨fun y_ => absurd y_ (show nI (A 245) ≤ nI (A 245) from nI_le (Nat.le_refl _) (by omega)), fun _ => ?_⟩ | refine ⟨fun _ => ?_, fun y_ => absurd y_ (show nI (A 245) ≤ nI (A 245) from nI_le (Nat.le_refl _) (by omega))⟩)
      exact hq r br
    | succ q ih =>
      intro k r hk br
      obtain ⟨b1, b2, b3, b4⟩ := a3 k (by omega)
      refine T_X12_besides_4 hs _ _ _ ?_
      rw [t245, a1]
      (first | refine ⟨fun _ => ?_, fun n_ => absurd (show ¬ nI (A 245) ≤ nI k from nI_ge (by omega) (by omega)) n_⟩ | refine ⟨fun n_ => absurd (show ¬ nI (A 245) ≤ nI k from nI_ge (by omega) (by omega)) n_, fun _ => ?_⟩ | refine ⟨fun y_ => absurd y_ (show ¬ nI (A 245) ≤ nI k from nI_ge (by omega) (by omega)), fun _ => ?_⟩ | refine ⟨fun _ => ?_, fun y_ => absurd y_ (show ¬ nI (A 245) ≤ nI k from nI_ge (by omega) (by omega))⟩)
      rw [i0, nI_1, nI_1, nI_clamp (show 3 * k < 2 ^ 31 by omega), nI_clamp (show 3 * k + 1 < 2 ^ 31 by omega), b1, b2, sh_n hs 84 5860 (by decide) (by decide) rfl, isIn_bt _ (show A (3 * k) < 32 by omega), isIn_bt _ (show A (3 * k + 1) < 32 by omega)]
      have v1 : vp_in (nI (3 * k)) 5860 := (vp_nI (by omega)).mpr (by omega)
      have v2 : vp_in (nI (3 * k + 1)) 5860 := (vp_nI (by omega)).mpr (by omega)
      have sl := s (A (3 * k)) (by omega)
      have sh := s (A (3 * k + 1)) (by omega)
      have nf : ∀ {x : Bool}, ¬ x = false → x = true := fun {x} y => by cases x; exact absurd rfl y; rfl
      have tf : ∀ {x : Bool}, x = false → ¬ x = true := fun {x} y => by rw [y]; decide
      have up : ∀ {i : Nat}, (∃ j, P j ∧ EB A noS k j i) → ∃ j, P j ∧ EB A noS (k + 1) j i := by
        rintro i ⟨j, y1, v, y2, y3⟩
        exact ⟨j, y1, v, by omega, y3⟩
      have dn : ∀ {i : Nat}, (∃ j, P j ∧ EB A noS (k + 1) j i) → (∃ j, P j ∧ EB A noS k j i) ∨ (P (A (3 * k)) ∧ i = A (3 * k + 1)) ∨ (P (A (3 * k + 1)) ∧ i = A (3 * k)) := by
        rintro i ⟨j, y1, v, y2, y3, y4⟩
        by_cases z : v = k
        · subst z
          rcases y4 with ⟨y5, y6⟩ | ⟨y5, y6⟩
          · exact .inr (.inl ⟨by rw [y5]; exact y1, y6.symm⟩)
          · exact .inr (.inr ⟨by rw [y6]; exact y1, y5.symm⟩)
        · exact .inl ⟨j, y1, v, by omega, y3, y4⟩
      have hi1 : P (A (3 * k)) → ∃ j, P j ∧ EB A noS (k + 1) j (A (3 * k + 1)) := fun y => ⟨_, y, k, by omega, fun z => z, .inl ⟨rfl, rfl⟩⟩
      have lo1 : P (A (3 * k + 1)) → ∃ j, P j ∧ EB A noS (k + 1) j (A (3 * k)) := fun y => ⟨_, y, k, by omega, fun z => z, .inr ⟨rfl, rfl⟩⟩
      refine ⟨v1, fun y => ⟨v2, fun z => ih (k + 1) r (by omega) (fun i hi => (br i hi).trans ?_), fun z => ⟨v1, ih (k + 1) _ (by omega) (fun i hi => ?_)⟩⟩, fun y => ⟨v2, v2, fun z => ih (k + 1) _ (by omega) (fun i hi => ?_), fun z => ⟨v1, ih (k + 1) _ (by omega) (fun i hi => ?_)⟩⟩⟩
      · constructor
        · rintro (x | x)
          · exact .inl x
          · exact .inr (up x)
        · rintro (x | x)
          · exact .inl x
          · rcases dn x with x | x | x
            · exact .inr x
            · exact absurd (sl.mpr x.1) (tf y)
            · exact absurd (sh.mpr x.1) (tf z)
      · rw [b_or, Bool.or_eq_true, br i hi, b_1sh (by omega) hi, decide_eq_true_eq]
        constructor
        · rintro ((x | x) | x)
          · exact .inl x
          · exact .inr (up x)
          · subst x; exact .inr (lo1 (sh.mp (nf z)))
        · rintro (x | x)
          · exact .inl (.inl x)
          · rcases dn x with x | x | x
            · exact .inl (.inr x)
            · exact absurd (sl.mpr x.1) (tf y)
            · exact .inr x.2
      · rw [b_or, Bool.or_eq_true, br i hi, b_1sh (by omega) hi, decide_eq_true_eq]
        constructor
        · rintro ((x | x) | x)
          · exact .inl x
          · exact .inr (up x)
          · subst x; exact .inr (hi1 (sl.mp (nf y)))
        · rintro (x | x)
          · exact .inl (.inl x)
          · rcases dn x with x | x | x
            · exact .inl (.inr x)
            · exact .inr x.2
            · exact absurd (sh.mpr x.1) (tf z)
      · rw [b_or, b_or, Bool.or_eq_true, Bool.or_eq_true, br i hi, b_1sh (by omega) hi, b_1sh (by omega) hi, decide_eq_true_eq, decide_eq_true_eq]
        constructor
        · rintro (((x | x) | x) | x)
          · exact .inl x
          · exact .inr (up x)
          · subst x; exact .inr (hi1 (sl.mp (nf y)))
          · subst x; exact .inr (lo1 (sh.mp (nf z)))
        · rintro (x | x)
          · exact .inl (.inl (.inl x))
          · rcases dn x with x | x | x
            · exact .inl (.inl (.inr x))
            · exact .inl (.inr x.2)
            · exact .inr x.2
  exact T_X12_besides hs _ (lp (A 245) 0 v (by omega) (fun i hi => (s i hi).trans ⟨fun y => .inl y, fun y => y.elim id (fun ⟨j, _, v, z, _⟩ => absurd z (by omega))⟩))
end WK
