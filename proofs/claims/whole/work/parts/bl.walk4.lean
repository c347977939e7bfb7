/-! ===== walks: the model, and both ===== -/
def nwS (A : Nat → Nat) (g u : ah_T) : Prop := mdF g u ∧ mBa A (nd0 A) u ∧ mNt A (nd0 A) 120 u ∧ ah_i u 82 49 = ah_i g 82 1
def wvR (A : Nat → Nat) (b : Bool) (f m t : Nat) (x v : Int32) : Prop := ((∀ d, m + d < 120 → ¬ fwD A b f m d t) ∧ v = -1) ∨ ∃ e, wkE A b f m t e ∧ ((x = -1 ∧ v = nI (m + e)) ∨ ∃ i, i < 2 ^ 31 ∧ x = nI i ∧ ((i ≤ e ∧ v = nI (wa A b f m t e i)) ∨ (e < i ∧ v = -1)))
section WK4
variable {KX : ah_T → Prop} {RX WX SX : (Nat → Nat) → ah_T → Prop} {A : Nat → Nat} {h g h1 u w : ah_T} {g0 n c f m t e d l : Nat} {b : Bool} {P P' : Nat → Prop}
theorem wvR_u {x v v' : Int32} (p : wvR A b f m t x v) (q : wvR A b f m t x v') : v = v' := by
  rcases p with ⟨p1, p2⟩ | ⟨e, p1, p2⟩
  · rcases q with ⟨q1, q2⟩ | ⟨e', q1, q2⟩
    · rw [p2, q2]
    · exact absurd q1.2.1 (p1 e' q1.1)
  · rcases q with ⟨q1, q2⟩ | ⟨e', q1, q2⟩
    · exact absurd p1.2.1 (q1 e p1.1)
    · have ee : e = e' := by
        rcases Nat.lt_trichotomy e e' with z | z | z
        · exact absurd p1.2.1 (q1.2.2 e z)
        · exact z
        · exact absurd q1.2.1 (p1.2.2 e' z)
      subst ee
      rcases p2 with ⟨a1, a2⟩ | ⟨i, i31, a1, a2⟩
      · rcases q2 with ⟨b1, b2⟩ | ⟨j, j31, b1, b2⟩
        · rw [a2, b2]
        · rw [a1] at b1; exact absurd b1.symm (nI_m1 j31)
      · rcases q2 with ⟨b1, b2⟩ | ⟨j, j31, b1, b2⟩
        · rw [a1] at b1; exact absurd b1 (nI_m1 i31)
        · rw [a1, nI_eq i31 j31] at b1
          subst b1
          rcases a2 with ⟨c1, c2⟩ | ⟨c1, c2⟩ <;> rcases b2 with ⟨d1, d2⟩ | ⟨d1, d2⟩
          · rw [c2, d2]
          · omega
          · omega
          · rw [c2, d2]
theorem nw_k (p : nwS A g u) (q : knF u w) (b : mBa A (nd0 A) w) : nwS A g w := ⟨mdF_t p.1 (mdF_k q), b, mNt_fr (fun a ha => (q.2.2.1 a (by omega) (by omega) (by omega) (by omega) (by omega)).1) p.2.2.1, by rw [q.2.2.2 49 (by decide) (by decide) (by decide) (by decide) (by decide)]; exact p.2.2.2⟩
theorem nw_c {a j : Nat} {x : Int32} (o : a = 113 ∨ a = 114) (p : nwS A g u) : nwS A g (ah_si u a j x) := by
  obtain ⟨f, ⟨b1, b2, b3, b4, b5⟩, p3, p4⟩ := p
  exact ⟨⟨sh_si f.1, by rw [ah_x_si, f.2.1], fun b n => eqc_si (f.2.2.1 b n) (by omega), fun i n => by rw [ah_i_sn (by omega)]; exact f.2.2.2 i n⟩, ⟨mLw_fr (fun i => ah_i_sn (by omega)) b1, mKn_e (fun b hb i => ah_i_sn (by omega)) (ah_i_sn (by omega)) (ah_i_sn (by omega)) b2, mND_fr (fun c hc i => ah_i_sn (by omega)) (fun i hi => ah_i_sn (by omega)) b3, mSw_fr (fun i => ah_i_sn (by omega)) b4, b5⟩, mNt_fr (fun a ha i => ah_i_sn (by omega)) p3, by rw [ah_i_sn (by omega)]; exact p4⟩
theorem inv_nw (X : XP KX RX WX) (hW : hWp KX RX) (hS : SXp SX) (p : preQ KX RX WX SX n A g) (q : nwS A g u) : Inv TXm (CCg KX RX WX) (CMg SX) n u := inv_md X hW hS p q.1 q.2.1.2.1 (fun _ => q.2.2.1) (.inr (.inl q.2.2.2))
theorem bt_4095 : ∀ i, i < 32 → bt 4095 i = decide (i < 12) := by decide +kernel
theorem m_walk {Q : Option Value → ah_T → Prop} {x5 : Int32} (wy : mWy A g) (hf : f < 12) (hm : m < 120) (ht : t < 12) (hl : l < 2) (eb : b = decide (l = 1)) (h5 : -1 ≤ x5) (q0 : nwS A g h)
    (hq : ∀ u v, nwS A g u → wvR A b f m t x5 v → Q (some (.int v)) u) : Wp mX12_walk Q 0 0 46 [some (.ref 82), some (.int (nI f)), some (.int (nI m)), some (.int (nI t)), some (.int (nI l)), some (.int x5), some (.int (nI m)), none, none, none, none] [] h := by
  have n113 : ∀ {u : ah_T}, Sh u → ah_n u 113 = 120 := fun hs => sh_n hs 113 120 (by decide) (by decide) rfl
  have n114 : ∀ {u : ah_T}, Sh u → ah_n u 114 = 120 := fun hs => sh_n hs 114 120 (by decide) (by decide) rfl
  have vp : ∀ {j : Nat}, j < 120 → vp_in (nI j) 120 := fun hj => (vp_nI (by omega)).mpr hj
  have wyu : ∀ {u}, nwS A g u → mWy A u := fun {u} q => by
    have e := (q.1.2.2.1 84 (by omega)).1
    unfold mWy at wy ⊢
    simp only [e]
    exact wy
  have one : nI l = 1 ↔ b = true := by rw [eb, decide_eq_true_eq, show (1 : Int32) = nI 1 from rfl, nI_eq (by omega) (by omega)]
  -- forwards along the row
  have l245 : ∀ (e q i d : Nat) (u : ah_T), d + q = i → i < 2 ^ 31 → x5 = nI i → wkE A b f m t e → i ≤ e → nwS A g u → (∀ j, j ≤ e → Sb (ah_i u 114 (m + j)) (ldS A b m t e (e - j))) → Wp mX12_walk Q 0 0 245 [some (.ref 82), none, some (.int (nI m)), none, none, some (.int x5), none, none, some (.int (nI (wa A b f m t e d))), some (.int (nI (m + d))), none] [] u := by
    intro e q
    induction q with
    | zero =>
      intro i d u hd i31 ei w ie nu st
      have e9 : d = i := by omega
      subst e9
      have w120 := w.1
      refine T_X12_walk_245 nu.1.1 _ _ _ _ ?_
      rw [ei, nI_add]
      (first | refine ⟨fun _ => ?_, fun n_ => absurd (show nI (m + d) ≤ nI (m + d) from nI_le (Nat.le_refl _) (by omega)) n_⟩ | refine ⟨fun n_ => absurd (show nI (m + d) ≤ nI (m + d) from nI_le (Nat.le_refl _) (by omega)) n_, fun _ => ?_⟩ | refine ⟨fun y_ => absurd y_ (show nI (m + d) ≤ nI (m + d) from nI_le (Nat.le_refl _) (by omega)), fun _ => ?_⟩ | refine ⟨fun _ => ?_, fun y_ => absurd y_ (show nI (m + d) ≤ nI (m + d) from nI_le (Nat.le_refl _) (by omega))⟩)
      exact hq u _ nu (.inr ⟨e, w, .inr ⟨d, i31, ei, .inl ⟨ie, rfl⟩⟩⟩)
    | succ q ih =>
      intro i d u hd i31 ei w ie nu st
      have w120 := w.1
      have lt12 := fwD_lt (wa_in w d (by omega)).1
      refine T_X12_walk_245 nu.1.1 _ _ _ _ ?_
      rw [ei, nI_add, nI_1]
      (first | refine ⟨fun _ => ?_, fun n_ => absurd (show ¬ nI (m + i) ≤ nI (m + d) from nI_ge (by omega) (by omega)) n_⟩ | refine ⟨fun n_ => absurd (show ¬ nI (m + i) ≤ nI (m + d) from nI_ge (by omega) (by omega)) n_, fun _ => ?_⟩ | refine ⟨fun y_ => absurd y_ (show ¬ nI (m + i) ≤ nI (m + d) from nI_ge (by omega) (by omega)), fun _ => ?_⟩ | refine ⟨fun _ => ?_, fun y_ => absurd y_ (show ¬ nI (m + i) ≤ nI (m + d) from nI_ge (by omega) (by omega))⟩)
      refine m_besides nu.1.1 (wyu nu) (Sb_1 (show wa A b f m t e d < 32 by omega)) (fun r sr => ⟨_, rfl, nu.1.1, ?_⟩)
      rw [n114 nu.1.1, show m + d + 1 = m + (d + 1) by omega, nI_clamp (show m + (d + 1) < 2 ^ 31 by omega)]
      refine ⟨vp (by omega), ?_⟩
      obtain ⟨z1, z2, z3⟩ := (wa_row w).2 d (by omega)
      have sc := Sb_and sr (st (d + 1) (by omega))
      have l277 : ∀ (q2 k : Nat), k + q2 = wa A b f m t e (d + 1) → Wp mX12_walk Q 0 0 277 [some (.ref 82), none, some (.int (nI m)), none, none, some (.int (nI i)), none, none, some (.int (nI k)), some (.int (nI (m + d))), some (.int (r &&& ah_i u 114 (m + (d + 1))))] [] u := by
        intro q2
        induction q2 with
        | zero =>
          intro k hk
          have e9 : k = wa A b f m t e (d + 1) := by omega
          refine T_X12_walk_277 nu.1.1 _ _ _ _ _ ?_
          have bk : bt (r &&& ah_i u 114 (m + (d + 1))) k = true := by rw [e9]; exact (sc _ (by omega)).mpr z2
          rw [isIn_bt _ (show k < 32 by omega), bk, nI_1, show m + d + 1 = m + (d + 1) by omega, e9]
          refine ⟨fun _ => ?_, fun y => absurd y (by decide)⟩
          have := ih i (d + 1) u (by omega) i31 ei w ie nu st
          rw [ei] at this
          exact this
        | succ q2 ih2 =>
          intro k hk
          refine T_X12_walk_277 nu.1.1 _ _ _ _ _ ?_
          have bk : bt (r &&& ah_i u 114 (m + (d + 1))) k = false := by
            cases y : bt (r &&& ah_i u 114 (m + (d + 1))) k
            · rfl
            · exact absurd ((sc k (by omega)).mp y) (z3 k (by omega))
          rw [isIn_bt _ (show k < 32 by omega), bk, show nI k + 1 = nI (k + 1) from nI_1 _]
          exact ⟨fun y => absurd rfl y, fun _ => ih2 (k + 1) (by omega)⟩
      exact l277 (wa A b f m t e (d + 1)) 0 (by omega)
  -- backwards
  have l199 : ∀ (e k i : Nat) (u : ah_T), k ≤ e → i < 2 ^ 31 → x5 = nI i → wkE A b f m t e → i ≤ e → nwS A g u → (∀ y, m ≤ y → y < 120 → Sb (ah_i u 113 y) (fnP A b y)) → (∀ j, k ≤ j → j ≤ e → Sb (ah_i u 114 (m + j)) (ldS A b m t e (e - j))) → Wp mX12_walk Q 0 0 199 [some (.ref 82), some (.int (nI f)), some (.int (nI m)), none, none, some (.int x5), none, none, some (.int (nO (m + k))), none, none] [] u := by
    intro e k
    induction k with
    | zero =>
      intro i u hk i31 ei w ie nu s1 s2
      have w120 := w.1
      refine T_X12_walk_199 nu.1.1 _ _ _ _ ?_
      (first | refine ⟨fun _ => ?_, fun n_ => absurd (show nO (m + 0) < nI m from (nO_ltI (by omega) (by omega)).mpr (by omega)) n_⟩ | refine ⟨fun n_ => absurd (show nO (m + 0) < nI m from (nO_ltI (by omega) (by omega)).mpr (by omega)) n_, fun _ => ?_⟩ | refine ⟨fun y_ => absurd y_ (show nO (m + 0) < nI m from (nO_ltI (by omega) (by omega)).mpr (by omega)), fun _ => ?_⟩ | refine ⟨fun _ => ?_, fun y_ => absurd y_ (show nO (m + 0) < nI m from (nO_ltI (by omega) (by omega)).mpr (by omega))⟩)
      exact l245 e i i 0 u (by omega) i31 ei w ie nu (fun j hj => s2 j (by omega) hj)
    | succ k ih =>
      intro i u hk i31 ei w ie nu s1 s2
      have w120 := w.1
      refine T_X12_walk_199 nu.1.1 _ _ _ _ ?_
      rw [show nO (m + (k + 1)) = nI (m + k) by rw [← Nat.add_assoc, nO_s]]
      (first | refine ⟨fun _ => ?_, fun n_ => absurd (show ¬ nI (m + k) < nI m from nI_nlt (by omega) (by omega)) n_⟩ | refine ⟨fun n_ => absurd (show ¬ nI (m + k) < nI m from nI_nlt (by omega) (by omega)) n_, fun _ => ?_⟩ | refine ⟨fun y_ => absurd y_ (show ¬ nI (m + k) < nI m from nI_nlt (by omega) (by omega)), fun _ => ?_⟩ | refine ⟨fun _ => ?_, fun y_ => absurd y_ (show ¬ nI (m + k) < nI m from nI_nlt (by omega) (by omega))⟩)
      rw [n114 nu.1.1, show nI (m + k) + 1 = nI (m + (k + 1)) from nI_1 _, nI_clamp (show m + k < 2 ^ 31 by omega), nI_clamp (show m + (k + 1) < 2 ^ 31 by omega), nO_m1]
      refine ⟨vp (by omega), ?_⟩
      refine m_besides nu.1.1 (wyu nu) (s2 (k + 1) (Nat.le_refl _) hk) (fun r sr => ⟨_, rfl, nu.1.1, ?_⟩)
      rw [n113 nu.1.1, n114 nu.1.1]
      refine ⟨vp (by omega), vp (by omega), ?_⟩
      rintro h57 rfl
      refine ih i _ (by omega) i31 ei w ie (nw_c (.inr rfl) nu) (fun y y1 y2 => by rw [ah_i_sn (by omega)]; exact s1 y y1 y2) (fun j h1 h2 => ?_)
      by_cases z : j = k
      · rw [z, ah_i_ss]
        refine Sb_iff (Sb_and sr (s1 (m + k) (by omega) (by omega))) (fun i => ?_)
        rw [show e - k = (e - (k + 1)) + 1 by omega]
        show _ ↔ arnd A (ldS A b m t e (e - (k + 1))) i ∧ fnP A b (m + (e - (e - (k + 1) + 1))) i
        rw [show e - (e - (k + 1) + 1) = k by omega]
      · rw [ah_i_sn (by omega)]; exact s2 j (by omega) h2
  -- the last is found
  have found : ∀ (d : Nat) (u : ah_T), wkE A b f m t d → nwS A g u → (∀ y, m ≤ y → y < 120 → Sb (ah_i u 113 y) (fnP A b y)) → ((x5 = -1 → ((¬ x5 = -1 → Q (some (.int (-1))) u) ∧ (x5 = -1 → Q (some (.int (nI (m + d)))) u))) ∧ (¬ x5 = -1 → ((x5 ≤ nI d → (vp_in (nI (m + d)) 120) ∧ (∀ h32, h32 = ah_si u 114 (m + d) ((1 : Int32) <<< (nI t &&& 31)) → Wp mX12_walk Q 0 0 199 [some (.ref 82), some (.int (nI f)), some (.int (nI m)), none, none, some (.int x5), none, none, some (.int (nO (m + d))), none, none] [] h32)) ∧ (¬ x5 ≤ nI d → ((¬ x5 = -1 → Q (some (.int (-1))) u) ∧ (x5 = -1 → Q (some (.int (nI (m + d)))) u)))))) := by
    intro d u w nu s1
    have w120 := w.1
    refine ⟨fun z => ⟨fun z2 => absurd z z2, fun _ => hq u _ nu (.inr ⟨d, w, .inl ⟨z, rfl⟩⟩)⟩, fun z => ?_⟩
    have x0 : ¬ x5 < 0 := by
      intro y
      have a := Int32.lt_iff_toInt_lt.mp y
      have b := Int32.le_iff_toInt_le.mp h5
      have e0 : (0 : Int32).toInt = 0 := rfl
      have e1 : (-1 : Int32).toInt = -1 := by decide
      rw [e0] at a
      rw [e1] at b
      exact z (Int32.toInt_inj.mp (by rw [e1]; omega))
    obtain ⟨i, i31, ei⟩ := nI_of3 x0
    refine ⟨fun y => ⟨vp w120, ?_⟩, fun y => ⟨fun _ => ?_, fun z3 => absurd z3 z⟩⟩
    · have ie : i ≤ d := by
        rcases Nat.lt_or_ge d i with q | q
        · rw [ei] at y; exact absurd y (nI_ge q i31)
        · exact q
      rintro h32 rfl
      refine l199 d d i _ (Nat.le_refl _) i31 ei w ie (nw_c (.inr rfl) nu) (fun y y1 y2 => by rw [ah_i_sn (by omega)]; exact s1 y y1 y2) (fun j h1 h2 => ?_)
      have ej : j = d := by omega
      subst ej
      rw [ah_i_ss, Nat.sub_self]
      exact Sb_1 (by omega)
    · have ie : d < i := by
        rcases Nat.lt_or_ge d i with q | q
        · exact q
        · rw [ei] at y; exact absurd (nI_le q (by omega)) y
      exact hq u _ nu (.inr ⟨d, w, .inr ⟨i, i31, ei, .inr ⟨ie, rfl⟩⟩⟩)
  -- forwards, sets
  have l106 : ∀ (q d : Nat) (u : ah_T) (v : Int32), m + d + q = 119 → nwS A g u → (∀ y, m ≤ y → y < 120 → Sb (ah_i u 113 y) (fnP A b y)) → Sb v (fwD A b f m d) → (∀ j, j < d → ¬ fwD A b f m j t) → Wp mX12_walk Q 0 0 106 [some (.ref 82), some (.int (nI f)), some (.int (nI m)), some (.int (nI t)), none, some (.int x5), some (.int v), some (.int (nI (m + d))), none, none, none] [] u := by
    intro q
    induction q with
    | zero =>
      intro d u v hd nu s1 sv no
      refine T_X12_walk_106 nu.1.1 _ _ _ _ _ _ ?_
      rw [isIn_bt _ (show t < 32 by omega), show nI (m + d) - nI m = nI d by rw [nI_sub (by omega), show m + d - m = d by omega], n114 nu.1.1, nO_pred, nI_clamp (show m + d < 2 ^ 31 by omega)]
      (first | refine ⟨fun _ => ?_, fun n_ => absurd (show 119 ≤ nI (m + d) from nI_le (a := 119) (by omega) (by omega)) n_⟩ | refine ⟨fun n_ => absurd (show 119 ≤ nI (m + d) from nI_le (a := 119) (by omega) (by omega)) n_, fun _ => ?_⟩ | refine ⟨fun y_ => absurd y_ (show 119 ≤ nI (m + d) from nI_le (a := 119) (by omega) (by omega)), fun _ => ?_⟩ | refine ⟨fun _ => ?_, fun y_ => absurd y_ (show 119 ≤ nI (m + d) from nI_le (a := 119) (by omega) (by omega))⟩)
      refine ⟨fun y => ?_, fun y => ?_⟩
      · have yt : fwD A b f m d t := (sv t (by omega)).mp (by cases z : bt v t; exact absurd z y; rfl)
        exact found d u ⟨by omega, yt, no⟩ nu s1
      · refine hq u _ nu (.inl ⟨fun j hj => ?_, rfl⟩)
        by_cases z : j = d
        · subst z
          intro z2
          rw [(sv t (by omega)).mpr z2] at y
          exact absurd y (by decide)
        · exact no j (by omega)
    | succ q ih =>
      intro d u v hd nu s1 sv no
      refine T_X12_walk_106 nu.1.1 _ _ _ _ _ _ ?_
      rw [isIn_bt _ (show t < 32 by omega), show nI (m + d) - nI m = nI d by rw [nI_sub (by omega), show m + d - m = d by omega], n114 nu.1.1, nO_pred, nI_1, nI_clamp (show m + d < 2 ^ 31 by omega), nI_clamp (show m + d + 1 < 2 ^ 31 by omega)]
      (first | refine ⟨fun _ => ?_, fun n_ => absurd (show ¬ 119 ≤ nI (m + d) from nI_ge (b := 119) (by omega) (by omega)) n_⟩ | refine ⟨fun n_ => absurd (show ¬ 119 ≤ nI (m + d) from nI_ge (b := 119) (by omega) (by omega)) n_, fun _ => ?_⟩ | refine ⟨fun y_ => absurd y_ (show ¬ 119 ≤ nI (m + d) from nI_ge (b := 119) (by omega) (by omega)), fun _ => ?_⟩ | refine ⟨fun _ => ?_, fun y_ => absurd y_ (show ¬ 119 ≤ nI (m + d) from nI_ge (b := 119) (by omega) (by omega))⟩)
      refine ⟨fun y => ⟨fun _ => ?_, fun y2 => absurd y2 y⟩, fun y => ?_⟩
      · have yt : fwD A b f m d t := (sv t (by omega)).mp (by cases z : bt v t; exact absurd z y; rfl)
        exact found d u ⟨by omega, yt, no⟩ nu s1
      · refine m_besides nu.1.1 (wyu nu) sv (fun r sr => ⟨_, rfl, nu.1.1, ?_⟩)
        rw [n113 nu.1.1]
        refine ⟨vp (by omega), ih (d + 1) u _ (by omega) nu s1 (Sb_and sr (s1 (m + (d + 1)) (by omega) (by omega))) (fun j hj => ?_)⟩
        by_cases z : j = d
        · subst z
          intro z2
          rw [(sv t (by omega)).mpr z2] at y
          exact absurd y (by decide)
        · exact no j (by omega)
  -- the light
  have l46 : ∀ (q x : Nat) (u : ah_T), x + q = 120 → m ≤ x → nwS A g u → (∀ y, m ≤ y → y < x → Sb (ah_i u 113 y) (fnP A b y)) → Wp mX12_walk Q 0 0 46 [some (.ref 82), some (.int (nI f)), some (.int (nI m)), some (.int (nI t)), some (.int (nI l)), some (.int x5), some (.int (nI x)), none, none, none, none] [] u := by
    intro q
    induction q with
    | zero =>
      intro x u hx mx nu s1
      have e9 : x = 120 := by omega
      subst e9
      refine T_X12_walk_46 nu.1.1 _ _ _ _ _ _ ?_
      (first | refine ⟨fun _ => ?_, fun n_ => absurd (show 120 ≤ nI 120 from nI_le (a := 120) (by omega) (by omega)) n_⟩ | refine ⟨fun n_ => absurd (show 120 ≤ nI 120 from nI_le (a := 120) (by omega) (by omega)) n_, fun _ => ?_⟩ | refine ⟨fun y_ => absurd y_ (show 120 ≤ nI 120 from nI_le (a := 120) (by omega) (by omega)), fun _ => ?_⟩ | refine ⟨fun _ => ?_, fun y_ => absurd y_ (show 120 ≤ nI 120 from nI_le (a := 120) (by omega) (by omega))⟩)
      rw [n113 nu.1.1, nI_clamp (show m < 2 ^ 31 by omega)]
      refine ⟨vp hm, ?_⟩
      exact l106 (119 - m) 0 u _ (by omega) nu s1 (Sb_and (Sb_1 (by omega)) (s1 m (Nat.le_refl _) hm)) (fun j hj => absurd hj (by omega))
    | succ q ih =>
      intro x u hx mx nu s1
      have hx2 : x < 120 := by omega
      refine T_X12_walk_46 nu.1.1 _ _ _ _ _ _ ?_
      (first | refine ⟨fun _ => ?_, fun n_ => absurd (show ¬ 120 ≤ nI x from nI_ge (b := 120) hx2 (by omega)) n_⟩ | refine ⟨fun n_ => absurd (show ¬ 120 ≤ nI x from nI_ge (b := 120) hx2 (by omega)) n_, fun _ => ?_⟩ | refine ⟨fun y_ => absurd y_ (show ¬ 120 ≤ nI x from nI_ge (b := 120) hx2 (by omega)), fun _ => ?_⟩ | refine ⟨fun _ => ?_, fun y_ => absurd y_ (show ¬ 120 ≤ nI x from nI_ge (b := 120) hx2 (by omega))⟩)
      rw [nI_1, nI_clamp (show x < 2 ^ 31 by omega)]
      have nx : ∀ (w : ah_T) (z : Int32), nwS A g w → (∀ j, ah_i w 113 j = ah_i u 113 j) → Sb z (fnP A b x) → vp_in (nI x) (ah_n w 113) ∧ ∀ h16, h16 = ah_si w 113 x z → Wp mX12_walk Q 0 0 46 [some (.ref 82), some (.int (nI f)), some (.int (nI m)), some (.int (nI t)), some (.int (nI l)), some (.int x5), some (.int (nI (x + 1))), none, none, none, none] [] h16 := by
        intro w z nw e sz
        rw [n113 nw.1.1]
        refine ⟨vp hx2, ?_⟩
        rintro h16 rfl
        refine ih (x + 1) _ (by omega) (by omega) (nw_c (.inl rfl) nw) (fun y y1 y2 => ?_)
        by_cases q : y = x
        · rw [q, ah_i_ss]; exact sz
        · rw [ah_i_sn (by omega), e]; exact s1 y y1 (by omega)
      refine ⟨fun o => ?_, fun o => ?_⟩
      · have bf : b = false := by cases y : b; rfl; exact absurd (one.mpr y) o
        refine m_brightIn nu.1.1 nu.2.1 rfl hx2 hx2 nu.2.2.1 (fun w v f1 b1 bv => ⟨_, rfl, f1.1, ?_⟩)
        refine nx w _ (nw_k nu f1 b1) (f1.2.2.1 113 (by omega) (by omega) (by omega) (by omega) (by omega)).1 (fun i hi => ?_)
        rw [b_xor, bt_4095 i hi]
        unfold fnP
        rw [bf]
        have q := bv i hi
        by_cases i12 : i < 12
        · rw [decide_eq_true i12]
          cases y : brP A (nd0 A) (litM A (nd0 A) x) x i <;> cases z : bt v i
          · exact ⟨fun _ => ⟨i12, rfl⟩, fun _ => rfl⟩
          · rw [(q.mp z).2] at y; exact absurd y (by decide)
          · rw [q.mpr ⟨i12, y⟩] at z; exact absurd z (by decide)
          · exact ⟨fun w => absurd w (by decide), fun w => absurd w.2 (by decide)⟩
        · rw [decide_eq_false i12]
          cases z : bt v i
          · exact ⟨fun w => absurd w (by decide), fun w => absurd w.1 i12⟩
          · exact absurd (q.mp z).1 i12
      · refine m_brightIn nu.1.1 nu.2.1 rfl hx2 hx2 nu.2.2.1 (fun w v f1 b1 bv => ⟨_, rfl, f1.1, ?_⟩)
        refine nx w _ (nw_k nu f1 b1) (f1.2.2.1 113 (by omega) (by omega) (by omega) (by omega) (by omega)).1 (fun i hi => ?_)
        unfold fnP
        rw [one.mp o]
        exact bv i hi
  exact l46 (120 - m) m h (by omega) (Nat.le_refl _) q0 (fun y y1 y2 => absurd y1 (by omega))
end WK4
/-
NOT written yet: rel_walk, as rel_burns (lr, not lk1: it relates): c_findWalk with wkX out of W.1 (Wp1 WX wkX Cwk);
 behind it a variant of lkO_g over wkF (cells 54.3, 58, 60 are in Cwk; 54.9 = 1 and chR, chL out of lgt give chO; KRp's krF holds of wkF);
 then T_X12_walk, m_laysNight (NOT md_night: its Inv is for knF alone) gives nwS; m_walk; inv_nw; wvR_u: the class's answer fulfils wvR, too.
This text was never compiled as a whole.
-/
