/-! ===== the model measures how far ===== -/
def EB (A : Nat → Nat) (s : Nat → Prop) (n c b : Nat) : Prop := ∃ v, v < n ∧ ¬ s v ∧ ((A (3 * v) = c ∧ A (3 * v + 1) = b) ∨ (A (3 * v) = b ∧ A (3 * v + 1) = c))
abbrev Ew (A : Nat → Nat) (s : Nat → Prop) : Nat → Nat → Prop := EB A s (A 245)
theorem Ew_in {A : Nat → Nat} {s : Nat → Prop} (w : ∀ v, v < A 245 → A (3 * v) < A (3 * v + 1) ∧ A (3 * v + 1) < 12) : ∀ x y, Ew A s x y → x < 12 ∧ y < 12 := by
  rintro x y ⟨v, hv, _, h⟩
  have := w v hv
  rcases h with ⟨h1, h2⟩ | ⟨h1, h2⟩ <;> omega
section ME
variable {A : Nat → Nat} {s : Nat → Prop} {h0 : ah_T} {a1 : Nat} {Q : Option Value → ah_T → Prop}
/-- a row of the model, all else as it was -/
def rw1 (h0 : ah_T) (a1 : Nat) (h : ah_T) (r : Nat → Nat) : Prop := Sh h ∧ ah_x h = ah_x h0 ∧ (∀ a, a ≠ a1 → eqc h0 h a) ∧ ∀ i, i < 144 → ah_i h a1 i = nI (r i)
theorem rw1_set {h : ah_T} {r : Nat → Nat} {j v : Nat} (q : rw1 h0 a1 h r) : rw1 h0 a1 (ah_si h a1 j (nI v)) (up r j v) := by
  obtain ⟨q1, q2, q3, q4⟩ := q
  refine ⟨sh_si q1, by rw [ah_x_si, q2], fun a ha => eqc_si (q3 a ha) ha, fun i hi => ?_⟩
  rw [ah_i_si]
  by_cases c : i = j
  · rw [if_pos ⟨rfl, c⟩, c, up_s]
  · rw [if_neg (fun z => c z.2), up_n c]
    exact q4 i hi
theorem a1n {h : ah_T} (hs : Sh h) (ha : a1 = 98 ∨ a1 = 99) : ah_k h a1 = 14 ∧ ah_n h a1 = 144 := by
  rcases ha with rfl | rfl
  · exact ⟨sh_k hs 98 14 (by decide) rfl, sh_n hs 98 144 (by decide) (by decide) rfl⟩
  · exact ⟨sh_k hs 99 14 (by decide) rfl, sh_n hs 99 144 (by decide) (by decide) rfl⟩
/-- the last round: NONE for what is too far -/
theorem m_me4 (ha : a1 = 98 ∨ a1 = 99) (r : Nat → Nat) (hr : ∀ i, i < 144 → r i ≤ 1000000) (hq : ∀ h, Sh h → ah_x h = ah_x h0 → (∀ a, a ≠ a1 → eqc h0 h a) → (∀ i, i < 144 → ah_i h a1 i = if r i < 1000000 then nI (r i) else -1) → Q none h) :
    ∀ (q k : Nat) (h : ah_T), k + q = 144 → Sh h → ah_x h = ah_x h0 → (∀ a, a ≠ a1 → eqc h0 h a) → (∀ i, i < 144 → ah_i h a1 i = if i < k then (if r i < 1000000 then nI (r i) else -1) else nI (r i)) → Wp mX12_measures Q 0 0 214 [none, some (.ref a1), none, some (.int (nI k)), none, none] [] h := by
  intro q
  induction q with
  | zero =>
    intro k h hk hs hx he hi
    refine T_X12_measures_214 hs a1 _ (a1n hs ha).1 ?_
    (first | refine ⟨fun _ => ?_, fun n_ => absurd (show 144 ≤ nI k from nI_le (a := 144) (by omega) (by omega)) n_⟩ | refine ⟨fun n_ => absurd (show 144 ≤ nI k from nI_le (a := 144) (by omega) (by omega)) n_, fun _ => ?_⟩ | refine ⟨fun y_ => absurd y_ (show 144 ≤ nI k from nI_le (a := 144) (by omega) (by omega)), fun _ => ?_⟩ | refine ⟨fun _ => ?_, fun y_ => absurd y_ (show 144 ≤ nI k from nI_le (a := 144) (by omega) (by omega))⟩)
    exact hq h hs hx he (fun i h1 => by rw [hi i h1, if_pos (by omega)])
  | succ q ih =>
    intro k h hk hs hx he hi
    have hn := (a1n hs ha).2
    have v : vp_in (nI k) (ah_n h a1) := by rw [hn]; exact (vp_nI (by omega)).mpr (by omega)
    have e : ah_i h a1 k = nI (r k) := by rw [hi k (by omega), if_neg (by omega)]
    have hrk := hr k (by omega)
    refine T_X12_measures_214 hs a1 _ (a1n hs ha).1 ?_
    (first | refine ⟨fun _ => ?_, fun n_ => absurd (show ¬ 144 ≤ nI k from nI_ge (b := 144) (by omega) (by omega)) n_⟩ | refine ⟨fun n_ => absurd (show ¬ 144 ≤ nI k from nI_ge (b := 144) (by omega) (by omega)) n_, fun _ => ?_⟩ | refine ⟨fun y_ => absurd y_ (show ¬ 144 ≤ nI k from nI_ge (b := 144) (by omega) (by omega)), fun _ => ?_⟩ | refine ⟨fun _ => ?_, fun y_ => absurd y_ (show ¬ 144 ≤ nI k from nI_ge (b := 144) (by omega) (by omega))⟩)
    rw [nI_clamp (by omega), e]
    have go : ∀ x, x = (if r k < 1000000 then nI (r k) else -1) → Wp mX12_measures Q 0 0 214 [none, some (.ref a1), none, some (.int (nI k + 1)), none, none] [] (ah_si h a1 k x) := by
      intro x hx2
      rw [nI_1]
      refine ih (k + 1) _ (by omega) (sh_si hs) hx (fun a n => eqc_si (he a n) n) (fun i h1 => ?_)
      rw [ah_i_si]
      by_cases c : i = k
      · subst c
        rw [if_pos ⟨rfl, rfl⟩, if_pos (by omega), hx2]
      · rw [if_neg (fun z => c z.2), hi i h1]
        by_cases c2 : i < k
        · rw [if_pos c2, if_pos (show i < k + 1 by omega)]
        · rw [if_neg c2, if_neg (show ¬ i < k + 1 by omega)]
    refine ⟨v, fun c => ⟨v, v, ?_⟩, fun c => ⟨v, ?_⟩⟩
    · rintro h35 rfl
      exact go _ (by rw [if_pos]; exact (nI_ltI (b := 1000000) (by omega) (by omega)).mp c)
    · rintro h40 rfl
      exact go _ (by rw [if_neg]; exact fun z => c (nI_lt (b := 1000000) z (by omega)))
/-- by way of each corner -/
theorem m_me3 (ha : a1 = 98 ∨ a1 = 99) (hE : ∀ x y, Ew A s x y → x < 12 ∧ y < 12) (hq : ∀ h, Sh h → ah_x h = ah_x h0 → (∀ a, a ≠ a1 → eqc h0 h a) → (∀ x y, x < 12 → y < 12 → dst (Ew A s) x y (ah_i h a1 (12 * x + y))) → Q none h) :
    ∀ (q m : Nat) (h : ah_T) (r : Nat → Nat), m + q = 12 → rw1 h0 a1 h r → fwA (Ew A s) r → (∀ x y, x < 12 → y < 12 → fwC (Ew A s) r m x y) → Wp mX12_measures Q 0 0 126 [none, some (.ref a1), none, some (.int (nI m)), none, none] [] h := by
  intro q
  induction q with
  | zero =>
    intro m h r hm hr hA hC
    have hm2 : m = 12 := by omega
    subst hm2
    obtain ⟨q1, q2, q3, q4⟩ := hr
    refine T_X12_measures_126 q1 a1 _ (a1n q1 ha).1 ?_
    (first | refine ⟨fun _ => ?_, fun n_ => absurd (show 12 ≤ nI 12 by decide) n_⟩ | refine ⟨fun n_ => absurd (show 12 ≤ nI 12 by decide) n_, fun _ => ?_⟩ | refine ⟨fun y_ => absurd y_ (show 12 ≤ nI 12 by decide), fun _ => ?_⟩ | refine ⟨fun _ => ?_, fun y_ => absurd y_ (show 12 ≤ nI 12 by decide)⟩)
    refine m_me4 ha r (fun i hi => ?_) (fun h' w1 w2 w3 w4 => hq h' w1 w2 w3 (fun x y hx hy => ?_)) 144 0 h rfl q1 q2 q3 (fun i hi => by rw [if_neg (by omega), q4 i hi])
    · have := hA.1 (i / 12) (i % 12) (by omega) (by omega)
      rwa [show 12 * (i / 12) + i % 12 = i by omega] at this
    · rw [w4 _ (by omega)]
      exact fw_end hE hx hy hA (hC x y hx hy)
  | succ q ih =>
    intro m h r hm hr hA hC
    have hm12 : m < 12 := by omega
    refine T_X12_measures_126 hr.1 a1 _ (a1n hr.1 ha).1 ?_
    (first | refine ⟨fun _ => ?_, fun n_ => absurd (show ¬ 12 ≤ nI m from nI_ge (b := 12) (by omega) (by omega)) n_⟩ | refine ⟨fun n_ => absurd (show ¬ 12 ≤ nI m from nI_ge (b := 12) (by omega) (by omega)) n_, fun _ => ?_⟩ | refine ⟨fun y_ => absurd y_ (show ¬ 12 ≤ nI m from nI_ge (b := 12) (by omega) (by omega)), fun _ => ?_⟩ | refine ⟨fun _ => ?_, fun y_ => absurd y_ (show ¬ 12 ≤ nI m from nI_ge (b := 12) (by omega) (by omega))⟩)
    have la : ∀ (p x : Nat) (h : ah_T) (r : Nat → Nat), x + p = 12 → rw1 h0 a1 h r → fwA (Ew A s) r → (∀ u v, u < 12 → v < 12 → fwC (Ew A s) r m u v) → (∀ u v, u < x → v < 12 → fwC (Ew A s) r (m + 1) u v) → Wp mX12_measures Q 0 0 135 [none, some (.ref a1), none, some (.int (nI m)), some (.int (nI x)), none] [] h := by
      intro p
      induction p with
      | zero =>
        intro x h r hx hr hA hC hC2
        refine T_X12_measures_135 hr.1 a1 _ _ (a1n hr.1 ha).1 ?_
        (first | refine ⟨fun _ => ?_, fun n_ => absurd (show 12 ≤ nI x from nI_le (a := 12) (by omega) (by omega)) n_⟩ | refine ⟨fun n_ => absurd (show 12 ≤ nI x from nI_le (a := 12) (by omega) (by omega)) n_, fun _ => ?_⟩ | refine ⟨fun y_ => absurd y_ (show 12 ≤ nI x from nI_le (a := 12) (by omega) (by omega)), fun _ => ?_⟩ | refine ⟨fun _ => ?_, fun y_ => absurd y_ (show 12 ≤ nI x from nI_le (a := 12) (by omega) (by omega))⟩)
        rw [nI_1]
        exact ih (m + 1) h r (by omega) hr hA (fun u v hu hv => hC2 u v (by omega) hv)
      | succ p ihp =>
        intro x h r hx hr hA hC hC2
        refine T_X12_measures_135 hr.1 a1 _ _ (a1n hr.1 ha).1 ?_
        (first | refine ⟨fun _ => ?_, fun n_ => absurd (show ¬ 12 ≤ nI x from nI_ge (b := 12) (by omega) (by omega)) n_⟩ | refine ⟨fun n_ => absurd (show ¬ 12 ≤ nI x from nI_ge (b := 12) (by omega) (by omega)) n_, fun _ => ?_⟩ | refine ⟨fun y_ => absurd y_ (show ¬ 12 ≤ nI x from nI_ge (b := 12) (by omega) (by omega)), fun _ => ?_⟩ | refine ⟨fun _ => ?_, fun y_ => absurd y_ (show ¬ 12 ≤ nI x from nI_ge (b := 12) (by omega) (by omega))⟩)
        have lb : ∀ (g y : Nat) (h : ah_T) (r : Nat → Nat), y + g = 12 → rw1 h0 a1 h r → fwA (Ew A s) r → (∀ u v, u < 12 → v < 12 → fwC (Ew A s) r m u v) → (∀ u v, u < x → v < 12 → fwC (Ew A s) r (m + 1) u v) → (∀ v, v < y → fwC (Ew A s) r (m + 1) x v) → Wp mX12_measures Q 0 0 145 [none, some (.ref a1), none, some (.int (nI m)), some (.int (nI x)), some (.int (nI y))] [] h := by
          intro g
          induction g with
          | zero =>
            intro y h r hy hr hA hC hC2 hC3
            refine T_X12_measures_145 hr.1 a1 _ _ _ (a1n hr.1 ha).1 ?_
            (first | refine ⟨fun _ => ?_, fun n_ => absurd (show 12 ≤ nI y from nI_le (a := 12) (by omega) (by omega)) n_⟩ | refine ⟨fun n_ => absurd (show 12 ≤ nI y from nI_le (a := 12) (by omega) (by omega)) n_, fun _ => ?_⟩ | refine ⟨fun y_ => absurd y_ (show 12 ≤ nI y from nI_le (a := 12) (by omega) (by omega)), fun _ => ?_⟩ | refine ⟨fun _ => ?_, fun y_ => absurd y_ (show 12 ≤ nI y from nI_le (a := 12) (by omega) (by omega))⟩)
            rw [nI_1]
            refine ihp (x + 1) h r (by omega) hr hA hC (fun u v hu hv => ?_)
            rcases Nat.lt_or_ge u x with z | z
            · exact hC2 u v z hv
            · have : u = x := by omega
              subst this
              exact hC3 v (by omega)
          | succ g ihg =>
            intro y h r hy hr hA hC hC2 hC3
            have hn := (a1n hr.1 ha).2
            have f1 : 12 * nI x + nI y = nI (12 * x + y) := by rw [n_12, nI_mul, nI_add]
            have f2 : 12 * nI x + nI m = nI (12 * x + m) := by rw [n_12, nI_mul, nI_add]
            have f3 : 12 * nI m + nI y = nI (12 * m + y) := by rw [n_12, nI_mul, nI_add]
            have vi : ∀ k, k < 144 → vp_in (nI k) (ah_n h a1) := fun k hk => by rw [hn]; exact (vp_nI (by omega)).mpr hk
            have b1 := hA.1 x y (by omega) (by omega)
            have b2 := hA.1 x m (by omega) (by omega)
            have b3 := hA.1 m y (by omega) (by omega)
            refine T_X12_measures_145 hr.1 a1 _ _ _ (a1n hr.1 ha).1 ?_
            (first | refine ⟨fun _ => ?_, fun n_ => absurd (show ¬ 12 ≤ nI y from nI_ge (b := 12) (by omega) (by omega)) n_⟩ | refine ⟨fun n_ => absurd (show ¬ 12 ≤ nI y from nI_ge (b := 12) (by omega) (by omega)) n_, fun _ => ?_⟩ | refine ⟨fun y_ => absurd y_ (show ¬ 12 ≤ nI y from nI_ge (b := 12) (by omega) (by omega)), fun _ => ?_⟩ | refine ⟨fun _ => ?_, fun y_ => absurd y_ (show ¬ 12 ≤ nI y from nI_ge (b := 12) (by omega) (by omega))⟩)
            rw [f1, f2, f3, nI_clamp (by omega), nI_clamp (by omega), nI_clamp (by omega), hr.2.2.2 _ (by omega), hr.2.2.2 _ (by omega), hr.2.2.2 _ (by omega), nI_add, f_lesser _ _ (by omega) (by omega)]
            refine ⟨vi _ (by omega), vi _ (by omega), vi _ (by omega), vi _ (by omega), ?_⟩
            rintro h50 rfl
            rw [nI_1]
            have hr' := rw1_set (j := 12 * x + y) (v := min (r (12 * x + y)) (r (12 * x + m) + r (12 * m + y))) hr
            have er : up r (12 * x + y) (min (r (12 * x + y)) (r (12 * x + m) + r (12 * m + y))) = fwS r m x y := rfl
            rw [er] at hr'
            refine ihg (y + 1) _ (fwS r m x y) (by omega) hr' (fwA_S hm12 (by omega) (by omega) hA) (fun u v hu hv => fwC_S (hC u v hu hv)) (fun u v hu hv => fwC_S (hC2 u v hu hv)) (fun v hv => ?_)
            rcases Nat.lt_or_ge v y with z | z
            · exact fwC_S (hC3 v z)
            · have : v = y := by omega
              subst this
              exact fwC_n (hC x v (by omega) (by omega)) (hC x m (by omega) (by omega)) (hC m v (by omega) (by omega))
        exact lb 12 0 h r (by omega) hr hA hC hC2 (fun v hv => by omega)
    exact la 12 0 h r (by omega) hr hA hC (fun u v hu hv => by omega)
/-- what stands in the row, as far as the ways are gone through -/
def iw (A : Nat → Nat) (s : Nat → Prop) (n : Nat) (r : Nat → Nat) : Prop := ∀ x y, x < 12 → y < 12 → (x = y → r (12 * x + y) = 0) ∧ (x ≠ y → (EB A s n x y → r (12 * x + y) = 1) ∧ (¬ EB A s n x y → r (12 * x + y) = 1000000))
theorem iw_fw {r : Nat → Nat} (h : iw A s (A 245) r) (w : ∀ v, v < A 245 → A (3 * v) < A (3 * v + 1) ∧ A (3 * v + 1) < 12) : fwA (Ew A s) r ∧ ∀ x y, x < 12 → y < 12 → fwC (Ew A s) r 0 x y := by
  refine ⟨⟨fun x y hx hy => ?_, fun x y hx hy hlt => ?_⟩, fun x y hx hy l hl p => ?_⟩
  · obtain ⟨h1, h2⟩ := h x y hx hy
    by_cases c : x = y
    · rw [h1 c]; omega
    · by_cases e : EB A s (A 245) x y
      · rw [(h2 c).1 e]; omega
      · rw [(h2 c).2 e]; omega
  · obtain ⟨h1, h2⟩ := h x y hx hy
    by_cases c : x = y
    · rw [h1 c]; exact c
    · by_cases e : EB A s (A 245) x y
      · rw [(h2 c).1 e]; exact ⟨x, rfl, e⟩
      · rw [(h2 c).2 e] at hlt; omega
  · obtain ⟨h1, h2⟩ := h x y hx hy
    rcases p with ⟨e, el⟩ | ⟨e, el⟩
    · rw [h1 e]; omega
    · by_cases c : x = y
      · rw [h1 c]; omega
      · rw [(h2 c).1 e]; omega
theorem m_me2 (ha : a1 = 98 ∨ a1 = 99) (m0 : mWy A h0) (x2 : Int32) (hx2 : ∀ v, v < 20 → (f_X12_isIn x2 (nI v) = 0 ↔ ¬ s v)) (hq : ∀ h, Sh h → ah_x h = ah_x h0 → (∀ a, a ≠ a1 → eqc h0 h a) → (∀ x y, x < 12 → y < 12 → dst (Ew A s) x y (ah_i h a1 (12 * x + y))) → Q none h) :
    ∀ (q n : Nat) (h : ah_T) (r : Nat → Nat), n + q = A 245 → rw1 h0 a1 h r → iw A s n r → Wp mX12_measures Q 0 0 37 [some (.ref 82), some (.ref a1), some (.int x2), some (.int (nI n)), none, none] [] h := by
  obtain ⟨m1, m2, m3⟩ := m0
  have w : ∀ v, v < A 245 → A (3 * v) < A (3 * v + 1) ∧ A (3 * v + 1) < 12 := fun v hv => ⟨(m3 v hv).2.2.1, (m3 v hv).2.2.2⟩
  intro q
  induction q with
  | zero =>
    intro n h r hn hr hi
    have e84 : ∀ j, ah_i h 84 j = ah_i h0 84 j := (hr.2.2.1 84 (by omega)).1
    refine T_X12_measures_37 hr.1 a1 _ _ (a1n hr.1 ha).1 ?_
    rw [cl_245, e84, m1]
    (first | refine ⟨fun _ => ?_, fun n_ => absurd (show nI (A 245) ≤ nI n from nI_le (by omega) (by omega)) n_⟩ | refine ⟨fun n_ => absurd (show nI (A 245) ≤ nI n from nI_le (by omega) (by omega)) n_, fun _ => ?_⟩ | refine ⟨fun y_ => absurd y_ (show nI (A 245) ≤ nI n from nI_le (by omega) (by omega)), fun _ => ?_⟩ | refine ⟨fun _ => ?_, fun y_ => absurd y_ (show nI (A 245) ≤ nI n from nI_le (by omega) (by omega))⟩)
    have hn2 : n = A 245 := by omega
    subst hn2
    obtain ⟨f1, f2⟩ := iw_fw hi w
    exact m_me3 ha (Ew_in w) hq 12 0 h r rfl hr f1 f2
  | succ q ih =>
    intro n h r hn hr hi
    have e84 : ∀ j, ah_i h 84 j = ah_i h0 84 j := (hr.2.2.1 84 (by omega)).1
    obtain ⟨u1, u2, u3, u4⟩ := m3 n (by omega)
    refine T_X12_measures_37 hr.1 a1 _ _ (a1n hr.1 ha).1 ?_
    rw [cl_245, e84, m1]
    (first | refine ⟨fun _ => ?_, fun n_ => absurd (show ¬ nI (A 245) ≤ nI n from nI_ge (by omega) (by omega)) n_⟩ | refine ⟨fun n_ => absurd (show ¬ nI (A 245) ≤ nI n from nI_ge (by omega) (by omega)) n_, fun _ => ?_⟩ | refine ⟨fun y_ => absurd y_ (show ¬ nI (A 245) ≤ nI n from nI_ge (by omega) (by omega)), fun _ => ?_⟩ | refine ⟨fun _ => ?_, fun y_ => absurd y_ (show ¬ nI (A 245) ≤ nI n from nI_ge (by omega) (by omega))⟩)
    rw [nI_1]
    by_cases c : s n
    · (first | refine ⟨fun _ => ?_, fun n_ => absurd (show ¬ f_X12_isIn x2 (nI n) = 0 from fun z => (hx2 n (by omega)).mp z c) n_⟩ | refine ⟨fun n_ => absurd (show ¬ f_X12_isIn x2 (nI n) = 0 from fun z => (hx2 n (by omega)).mp z c) n_, fun _ => ?_⟩ | refine ⟨fun y_ => absurd y_ (show ¬ f_X12_isIn x2 (nI n) = 0 from fun z => (hx2 n (by omega)).mp z c), fun _ => ?_⟩ | refine ⟨fun _ => ?_, fun y_ => absurd y_ (show ¬ f_X12_isIn x2 (nI n) = 0 from fun z => (hx2 n (by omega)).mp z c)⟩)
      refine ih (n + 1) h r (by omega) hr (fun x y hx hy => ⟨(hi x y hx hy).1, fun hxy => ⟨fun ⟨v, hv, hs, e⟩ => ?_, fun z => ?_⟩⟩)
      · refine ((hi x y hx hy).2 hxy).1 ⟨v, ?_, hs, e⟩
        rcases Nat.lt_or_ge v n with k | k
        · exact k
        · have : v = n := by omega
          subst this
          exact absurd c hs
      · exact ((hi x y hx hy).2 hxy).2 (fun ⟨v, hv, hs, e⟩ => z ⟨v, by omega, hs, e⟩)
    · (first | refine ⟨fun _ => ?_, fun n_ => absurd ((hx2 n (by omega)).mpr c) n_⟩ | refine ⟨fun n_ => absurd ((hx2 n (by omega)).mpr c) n_, fun _ => ?_⟩ | refine ⟨fun y_ => absurd y_ ((hx2 n (by omega)).mpr c), fun _ => ?_⟩ | refine ⟨fun _ => ?_, fun y_ => absurd y_ ((hx2 n (by omega)).mpr c)⟩)
      have f1 : 0 + 3 * nI n = nI (3 * n) := by grind
      have hn84 := n84 hr.1
      have hna := (a1n hr.1 ha).2
      rw [f1, nI_1, nI_clamp (by omega), nI_clamp (by omega), e84, e84, u1, u2]
      have g1 : 12 * nI (A (3 * n)) + nI (A (3 * n + 1)) = nI (12 * A (3 * n) + A (3 * n + 1)) := by rw [n_12, nI_mul, nI_add]
      have g2 : 12 * nI (A (3 * n + 1)) + nI (A (3 * n)) = nI (12 * A (3 * n + 1) + A (3 * n)) := by rw [n_12, nI_mul, nI_add]
      rw [g1, nI_clamp (by omega)]
      refine ⟨by rw [hn84]; exact (vp_nI (by omega)).mpr (by omega), by rw [hn84]; exact (vp_nI (by omega)).mpr (by omega), by rw [hna]; exact (vp_nI (by omega)).mpr (by omega), ?_⟩
      rintro h18 rfl
      rw [ah_i_sn (by omega), ah_i_sn (by omega), e84, e84, u1, u2, g2, nI_clamp (by omega), ah_n_si, ah_n_si]
      refine ⟨by rw [hn84]; exact (vp_nI (by omega)).mpr (by omega), by rw [hn84]; exact (vp_nI (by omega)).mpr (by omega), by rw [hna]; exact (vp_nI (by omega)).mpr (by omega), ?_⟩
      rintro h25 rfl
      refine ih (n + 1) _ _ (by omega) (rw1_set (j := 12 * A (3 * n + 1) + A (3 * n)) (v := 1) (rw1_set (j := 12 * A (3 * n) + A (3 * n + 1)) (v := 1) hr)) (fun x y hx hy => ⟨fun e => ?_, fun hxy => ⟨fun z => ?_, fun z => ?_⟩⟩)
      · rw [up_n (by omega), up_n (by omega)]; exact (hi x y hx hy).1 e
      · by_cases c1 : 12 * x + y = 12 * A (3 * n + 1) + A (3 * n)
        · rw [c1, up_s]
        · rw [up_n c1]
          by_cases c2 : 12 * x + y = 12 * A (3 * n) + A (3 * n + 1)
          · rw [c2, up_s]
          · rw [up_n c2]
            refine ((hi x y hx hy).2 hxy).1 ?_
            obtain ⟨v, hv, hs, e⟩ := z
            rcases Nat.lt_or_ge v n with k | k
            · exact ⟨v, k, hs, e⟩
            · have : v = n := by omega
              subst this
              rcases e with ⟨e1, e2⟩ | ⟨e1, e2⟩
              · subst e1 e2; exact absurd rfl c2
              · subst e1 e2; exact absurd rfl c1
      · have c1 : 12 * x + y ≠ 12 * A (3 * n + 1) + A (3 * n) := fun e => z ⟨n, by omega, c, .inr (by omega)⟩
        have c2 : 12 * x + y ≠ 12 * A (3 * n) + A (3 * n + 1) := fun e => z ⟨n, by omega, c, .inl (by omega)⟩
        rw [up_n c1, up_n c2]
        exact ((hi x y hx hy).2 hxy).2 (fun ⟨v, hv, hs, e⟩ => z ⟨v, by omega, hs, e⟩)
theorem m_measures (ha : a1 = 98 ∨ a1 = 99) (hs0 : Sh h0) (m0 : mWy A h0) (x2 : Int32) (hx2 : ∀ v, v < 20 → (f_X12_isIn x2 (nI v) = 0 ↔ ¬ s v)) (hq : ∀ h, Sh h → ah_x h = ah_x h0 → (∀ a, a ≠ a1 → eqc h0 h a) → (∀ x y, x < 12 → y < 12 → dst (Ew A s) x y (ah_i h a1 (12 * x + y))) → Q none h) : Mt mX12_measures [.ref 82, .ref a1, .int x2] h0 Q := by
  refine T_X12_measures hs0 a1 x2 (a1n hs0 ha).1 ?_
  have l1 : ∀ (q k : Nat) (h : ah_T), k + q = 144 → Sh h → ah_x h = ah_x h0 → (∀ a, a ≠ a1 → eqc h0 h a) → (∀ i, i < k → ah_i h a1 i = nI (if i / 12 = i % 12 then 0 else 1000000)) → Wp mX12_measures Q 0 0 2 [some (.ref 82), some (.ref a1), some (.int x2), some (.int (nI k)), none, none] [] h := by
    intro q
    induction q with
    | zero =>
      intro k h hk hs hx he hi
      refine T_X12_measures_2 hs a1 _ _ (a1n hs ha).1 ?_
      (first | refine ⟨fun _ => ?_, fun n_ => absurd (show 144 ≤ nI k from nI_le (a := 144) (by omega) (by omega)) n_⟩ | refine ⟨fun n_ => absurd (show 144 ≤ nI k from nI_le (a := 144) (by omega) (by omega)) n_, fun _ => ?_⟩ | refine ⟨fun y_ => absurd y_ (show 144 ≤ nI k from nI_le (a := 144) (by omega) (by omega)), fun _ => ?_⟩ | refine ⟨fun _ => ?_, fun y_ => absurd y_ (show 144 ≤ nI k from nI_le (a := 144) (by omega) (by omega))⟩)
      refine m_me2 ha m0 x2 hx2 hq (A 245) 0 h (fun i => if i / 12 = i % 12 then 0 else 1000000) (by omega) ⟨hs, hx, he, fun i h1 => hi i (by omega)⟩ (fun x y hx hy => ⟨fun e => ?_, fun e => ⟨fun ⟨v, hv, _⟩ => by omega, fun _ => ?_⟩⟩)
      · show (if (12 * x + y) / 12 = (12 * x + y) % 12 then 0 else 1000000) = 0
        rw [if_pos (by omega)]
      · show (if (12 * x + y) / 12 = (12 * x + y) % 12 then 0 else 1000000) = 1000000
        rw [if_neg (by omega)]
    | succ q ih =>
      intro k h hk hs hx he hi
      have hn := (a1n hs ha).2
      have v : vp_in (nI k) (ah_n h a1) := by rw [hn]; exact (vp_nI (by omega)).mpr (by omega)
      have d1 : nI k / 12 = nI (k / 12) := pk_div (a := k) (d := 12) (by omega) (by decide) (by decide)
      have d2 : nI k - nI k / 12 * 12 = nI (k % 12) := pk_rem (a := k) (d := 12) (by omega) (by decide) (by decide)
      refine T_X12_measures_2 hs a1 _ _ (a1n hs ha).1 ?_
      rw [d2, d1, nI_clamp (by omega)]
      (first | refine ⟨fun _ => ?_, fun n_ => absurd (show ¬ 144 ≤ nI k from nI_ge (b := 144) (by omega) (by omega)) n_⟩ | refine ⟨fun n_ => absurd (show ¬ 144 ≤ nI k from nI_ge (b := 144) (by omega) (by omega)) n_, fun _ => ?_⟩ | refine ⟨fun y_ => absurd y_ (show ¬ 144 ≤ nI k from nI_ge (b := 144) (by omega) (by omega)), fun _ => ?_⟩ | refine ⟨fun _ => ?_, fun y_ => absurd y_ (show ¬ 144 ≤ nI k from nI_ge (b := 144) (by omega) (by omega))⟩)
      have go : ∀ x, x = nI (if k / 12 = k % 12 then 0 else 1000000) → Wp mX12_measures Q 0 0 2 [some (.ref 82), some (.ref a1), some (.int x2), some (.int (nI k + 1)), none, none] [] (ah_si h a1 k x) := by
        intro x hx2
        rw [nI_1]
        refine ih (k + 1) _ (by omega) (sh_si hs) hx (fun a n => eqc_si (he a n) n) (fun i h1 => ?_)
        rw [ah_i_si]
        by_cases c : i = k
        · subst c
          rw [if_pos ⟨rfl, rfl⟩, hx2]
        · rw [if_neg (fun z => c z.2), hi i (by omega)]
      by_cases c : k / 12 = k % 12
      · (first | refine ⟨fun _ => ?_, fun n_ => absurd (show nI (k / 12) = nI (k % 12) by rw [c]) n_⟩ | refine ⟨fun n_ => absurd (show nI (k / 12) = nI (k % 12) by rw [c]) n_, fun _ => ?_⟩ | refine ⟨fun y_ => absurd y_ (show nI (k / 12) = nI (k % 12) by rw [c]), fun _ => ?_⟩ | refine ⟨fun _ => ?_, fun y_ => absurd y_ (show nI (k / 12) = nI (k % 12) by rw [c])⟩)
        refine ⟨v, ?_⟩
        rintro h9 rfl
        exact go _ (by rw [if_pos c]; rfl)
      · (first | refine ⟨fun _ => ?_, fun n_ => absurd (show ¬ nI (k / 12) = nI (k % 12) from fun z => c ((nI_eq (by omega) (by omega)).mp z)) n_⟩ | refine ⟨fun n_ => absurd (show ¬ nI (k / 12) = nI (k % 12) from fun z => c ((nI_eq (by omega) (by omega)).mp z)) n_, fun _ => ?_⟩ | refine ⟨fun y_ => absurd y_ (show ¬ nI (k / 12) = nI (k % 12) from fun z => c ((nI_eq (by omega) (by omega)).mp z)), fun _ => ?_⟩ | refine ⟨fun _ => ?_, fun y_ => absurd y_ (show ¬ nI (k / 12) = nI (k % 12) from fun z => c ((nI_eq (by omega) (by omega)).mp z))⟩)
        refine ⟨v, ?_⟩
        rintro h4 rfl
        exact go _ (by rw [if_neg c]; rfl)
  exact l1 144 0 h0 rfl hs0 rfl (fun _ _ => eqc_rfl) (fun i hi => by omega)
end ME
