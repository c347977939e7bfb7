/-! ===== the darkest way on both sides ===== -/
section WR4
variable {KX : ah_T → Prop} {RX WX SX : (Nat → Nat) → ah_T → Prop} {A : Nat → Nat} {N : Nd} {h g h1 : ah_T} {g0 sp n k m c r : Nat} {p : Nat → Nat} {S : Ns}
theorem q_four (x : Int32) : f_X12_lies x 0 3 = f_X11_isIn x 4 := by unfold f_X12_lies f_X11_isIn; grind
theorem q_i (x : Int32) (hn : n ≤ 3) : f_X12_lies x (-1) (nI n - 1) = 0 ↔ (x < -1 ∨ ¬ x < nI n) := by
  have c4 : n = 0 ∨ n = 1 ∨ n = 2 ∨ n = 3 := by omega
  rcases c4 with y | y | y | y <;> subst y
  · have e : nI 0 = 0 := rfl
    rw [e]; unfold f_X12_lies; grind
  · have e : nI 1 = 1 := rfl
    rw [e]; unfold f_X12_lies; grind
  · have e : nI 2 = 2 := rfl
    rw [e]; unfold f_X12_lies; grind
  · have e : nI 3 = 3 := rfl
    rw [e]; unfold f_X12_lies; grind
theorem hasW_E {a b : Nat} (w : ∀ v, v < A 245 → A (3 * v) < A (3 * v + 1)) : a ≠ b ∧ hasW A a b ↔ a ≠ b ∧ Ew A noS a b := by
  constructor
  · rintro ⟨ne, v, h1, h2, h3⟩
    refine ⟨ne, v, h1, fun y => y, ?_⟩
    rcases Nat.lt_or_ge a b with z | z
    · exact .inl ⟨by omega, by omega⟩
    · exact .inr ⟨by omega, by omega⟩
  · rintro ⟨ne, v, h1, _, h2⟩
    have lt := w v h1
    refine ⟨ne, v, h1, ?_⟩
    rcases h2 with ⟨y1, y2⟩ | ⟨y1, y2⟩
    · exact ⟨by omega, by omega⟩
    · exact ⟨by omega, by omega⟩
theorem okS_all (e : ∀ g, g < n → dg n r g = c) : ∀ g, g ≤ n → okS A c n r g = true
  | 0, _ => rfl
  | g + 1, hg => by
    show (okS A c n r g && _) = true
    rw [okS_all e g (by omega)]
    have : dg n r g = aG c n r g := by
      rw [e g (by omega)]
      unfold aG
      split
      · rfl
      · exact (e (g - 1) (by omega)).symm
    rw [decide_eq_true this]
    rfl
theorem woF_an (h10 : A 246 ≤ 10) : ∀ {b a : Nat}, a ≤ b → (woF A k m c n b).1 ≤ (woF A k m c n a).1
  | 0, a, hb => by rw [show a = 0 by omega]; exact Nat.le_refl _
  | b + 1, a, hb => by
    by_cases z : a = b + 1
    · rw [z]; exact Nat.le_refl _
    · have ih := woF_an h10 (show a ≤ b by omega)
      rw [woF_s]
      split
      · rename_i y
        have y2 := y.2
        show wT A k m c n b ≤ _
        omega
      · exact ih
/-- one row at least leads along ways -/
theorem woF_fin (h10 : A 246 ≤ 10) (hc : c < 12) (hn : n ≤ 3) : (woF A k m c n (pw n)).1 < 1201 := by
  have key : ∀ rc, rc < pw n → (∀ g, g < n → dg n rc g = c) → (woF A k m c n (pw n)).1 < 1201 := by
    intro rc h1 h2
    have a := woF_an (A := A) (k := k) (m := m) (c := c) (n := n) h10 (show rc + 1 ≤ pw n from h1)
    have ok := okS_all (A := A) h2 n (Nat.le_refl _)
    have T := wT_le (k := k) (m := m) (c := c) (n := n) (r := rc) h10
    have b : (woF A k m c n (rc + 1)).1 ≤ 1200 := by
      rw [woF_s]
      split
      · exact T
      · rename_i y
        rcases Nat.lt_or_ge (wT A k m c n rc) (woF A k m c n rc).1 with z | z
        · exact absurd ⟨ok, z⟩ y
        · omega
    omega
  have c4 : n = 0 ∨ n = 1 ∨ n = 2 ∨ n = 3 := by omega
  rcases c4 with y | y | y | y <;> subst y
  · exact key 0 (by show 0 < 1; omega) (fun g hg => absurd hg (by omega))
  · refine key c (by show c < 12; omega) (fun g hg => ?_)
    rw [show g = 0 by omega]
    show c / 1 % 12 = c
    omega
  · refine key (13 * c) (by show 13 * c < 144; omega) (fun g hg => ?_)
    have g2 : g = 0 ∨ g = 1 := by omega
    rcases g2 with z | z <;> subst z
    · exact (show ∀ c, c < 12 → 13 * c / 12 % 12 = c by decide) c hc
    · show 13 * c / 1 % 12 = c
      omega
  · refine key (157 * c) (by show 157 * c < 1728; omega) (fun g hg => ?_)
    have g3 : g = 0 ∨ g = 1 ∨ g = 2 := by omega
    rcases g3 with z | z | z <;> subst z
    · exact (show ∀ c, c < 12 → 157 * c / 144 % 12 = c by decide) c hc
    · exact (show ∀ c, c < 12 → 157 * c / 12 % 12 = c by decide) c hc
    · show 157 * c / 1 % 12 = c
      omega
/-- the model's rows -/
theorem m_worst {Q : Option Value → ah_T → Prop} {x5 : Int32} (h10 : A 246 ≤ 10) (hk : k < 6) (hm : m < 120) (hc : c < 12) (hn : n ≤ 3)
    (hq : ∀ v, tyO A g v → woM A k m c n (pw n) v → (¬ x5 = -1 → vp_in x5 3 ∧ Q (some (.int (ah_i v 116 x5.toNatClampNeg))) v) ∧ (x5 = -1 → Q (some (.int (ah_i v 82 55))) v)) : ∀ (q r : Nat) (u : ah_T), r + q = pw n → tyO A g u → woM A k m c n r u → Wp mX12_worst Q 0 0 91 [some (.ref 82), some (.int (nI k)), some (.int (nI m)), some (.int (nI c)), some (.int (nI n)), some (.int x5), some (.int (nI (pw n))), some (.int (nI r)), none, none, none, none] [] u := by
  have pn := pw_le hn
  intro q
  induction q with
  | zero =>
    intro r u hr ty wm
    have e9 : r = pw n := by omega
    subst e9
    obtain ⟨y1, y2⟩ := hq u ty wm
    refine T_X12_worst_91 ty.1.1 _ _ _ _ _ _ _ ?_
    (first | refine ⟨fun _ => ?_, fun n_ => absurd (show nI (pw n) ≤ nI (pw n) from nI_le (Nat.le_refl _) (by omega)) n_⟩ | refine ⟨fun n_ => absurd (show nI (pw n) ≤ nI (pw n) from nI_le (Nat.le_refl _) (by omega)) n_, fun _ => ?_⟩ | refine ⟨fun y_ => absurd y_ (show nI (pw n) ≤ nI (pw n) from nI_le (Nat.le_refl _) (by omega)), fun _ => ?_⟩ | refine ⟨fun _ => ?_, fun y_ => absurd y_ (show nI (pw n) ≤ nI (pw n) from nI_le (Nat.le_refl _) (by omega))⟩)
    rw [sh_n ty.1.1 116 3 (by decide) (by decide) rfl]
    exact ⟨y1, y2⟩
  | succ q ih =>
    intro r u hr ty wm
    have hr2 : r < pw n := by omega
    refine T_X12_worst_91 ty.1.1 _ _ _ _ _ _ _ ?_
    (first | refine ⟨fun _ => ?_, fun n_ => absurd (show ¬ nI (pw n) ≤ nI r from nI_ge (by omega) (by omega)) n_⟩ | refine ⟨fun n_ => absurd (show ¬ nI (pw n) ≤ nI r from nI_ge (by omega) (by omega)) n_, fun _ => ?_⟩ | refine ⟨fun y_ => absurd y_ (show ¬ nI (pw n) ≤ nI r from nI_ge (by omega) (by omega)), fun _ => ?_⟩ | refine ⟨fun _ => ?_, fun y_ => absurd y_ (show ¬ nI (pw n) ≤ nI r from nI_ge (by omega) (by omega))⟩)
    -- the test of ways
    have l147 : ∀ (q2 e : Nat) (v : ah_T), e + q2 = n → tyO A g v → woM A k m c n r v → (∀ i, i < n → ah_i v 115 i = nI (dg n r i)) → Wp mX12_worst Q 0 0 147 [some (.ref 82), some (.int (nI k)), some (.int (nI m)), some (.int (nI c)), some (.int (nI n)), some (.int x5), some (.int (nI (pw n))), some (.int (nI r)), none, some (.int (bI (okS A c n r e))), some (.int (nI (aG c n r e))), some (.int (nI e))] [] v := by
      intro q2
      induction q2 with
      | zero =>
        intro e v he tv wv ed
        have e9 : e = n := by omega
        subst e9
        refine T_X12_worst_147 tv.1.1 _ _ _ _ _ _ _ _ _ _ ?_
        (first | refine ⟨fun _ => ?_, fun n_ => absurd (show nI e ≤ nI e from nI_le (Nat.le_refl _) (by omega)) n_⟩ | refine ⟨fun n_ => absurd (show nI e ≤ nI e from nI_le (Nat.le_refl _) (by omega)) n_, fun _ => ?_⟩ | refine ⟨fun y_ => absurd y_ (show nI e ≤ nI e from nI_le (Nat.le_refl _) (by omega)), fun _ => ?_⟩ | refine ⟨fun _ => ?_, fun y_ => absurd y_ (show nI e ≤ nI e from nI_le (Nat.le_refl _) (by omega))⟩)
        rw [bI_0, nI_1]
        refine ⟨fun y => ?_, fun y => ?_⟩
        · have eW : woF A k m c e (r + 1) = woF A k m c e r := by rw [woF_s, if_neg (fun z => by rw [y] at z; exact absurd z.1 (by decide))]
          exact ih (r + 1) v (by omega) tv (by unfold woM at wv ⊢; rw [eW]; exact wv)
        · have ok : okS A c e r e = true := by cases z : okS A c e r e; exact absurd z y; rfl
          exact m_triesGo tv h10 hk hm hc hn ok ed wv rfl rfl rfl rfl (fun w tw ww => ⟨rfl, tw.1.1, ih (r + 1) w (by omega) tw ww⟩)
      | succ q2 ih2 =>
        intro e v he tv wv ed
        have en : e < n := by omega
        have al := aG_lt (n := n) (r := r) hc e
        have dl := dg_lt n r e
        refine T_X12_worst_147 tv.1.1 _ _ _ _ _ _ _ _ _ _ ?_
        (first | refine ⟨fun _ => ?_, fun n_ => absurd (show ¬ nI n ≤ nI e from nI_ge (by omega) (by omega)) n_⟩ | refine ⟨fun n_ => absurd (show ¬ nI n ≤ nI e from nI_ge (by omega) (by omega)) n_, fun _ => ?_⟩ | refine ⟨fun y_ => absurd y_ (show ¬ nI n ≤ nI e from nI_ge (by omega) (by omega)), fun _ => ?_⟩ | refine ⟨fun _ => ?_, fun y_ => absurd y_ (show ¬ nI n ≤ nI e from nI_ge (by omega) (by omega))⟩)
        rw [bI_0, nI_1, nI_clamp (show e < 2 ^ 31 by omega), sh_n tv.1.1 115 3 (by decide) (by decide) rfl, ed e en, nI_eq (show dg n r e < 2 ^ 31 by omega) (show aG c n r e < 2 ^ 31 by omega)]
        have v3 : vp_in (nI e) 3 := (vp_nI (by omega)).mpr (by omega)
        have nx : ∀ x : Bool, okS A c n r (e + 1) = x → Wp mX12_worst Q 0 0 147 [some (.ref 82), some (.int (nI k)), some (.int (nI m)), some (.int (nI c)), some (.int (nI n)), some (.int x5), some (.int (nI (pw n))), some (.int (nI r)), none, some (.int (bI x)), some (.int (nI (dg n r e))), some (.int (nI (e + 1)))] [] v := by
          intro x ex
          have := ih2 (e + 1) v (by omega) tv wv ed
          rw [ex, aG_s] at this
          exact this
        have so : okS A c n r (e + 1) = (okS A c n r e && (decide (dg n r e = aG c n r e) || @decide (Ew A noS (aG c n r e) (dg n r e)) (Classical.propDecidable _))) := rfl
        refine ⟨fun y => ⟨v3, nx false (by rw [so, y]; rfl)⟩, fun y => ⟨v3, fun z => ⟨v3, nx true ?_⟩, fun z => ⟨v3, ?_⟩⟩⟩
        · have ok : okS A c n r e = true := by cases z : okS A c n r e; exact absurd z y; rfl
          rw [so, ok, decide_eq_true z]; rfl
        · have ok : okS A c n r e = true := by cases z : okS A c n r e; exact absurd z y; rfl
          rw [ok, decide_eq_false z, Bool.true_and, Bool.false_or] at so
          refine m_hasWay tv.1.1 tv.2.1.2.2.1.1 (aG c n r e) (dg n r e) al dl (fun ne hw => ⟨_, rfl, tv.1.1, ?_⟩) (fun no => ⟨_, rfl, tv.1.1, ?_⟩)
          · have w := ((hasW_E (fun v hv => (tv.2.1.2.2.1.1.2.2 v hv).2.2.1)).mp ⟨ne, hw⟩).2
            rw [sh_n tv.1.1 115 3 (by decide) (by decide) rfl, ed e en]
            (first | refine ⟨fun _ => ?_, fun n_ => absurd (show ¬ (1 : Int32) = 0 by decide) n_⟩ | refine ⟨fun n_ => absurd (show ¬ (1 : Int32) = 0 by decide) n_, fun _ => ?_⟩ | refine ⟨fun y_ => absurd y_ (show ¬ (1 : Int32) = 0 by decide), fun _ => ?_⟩ | refine ⟨fun _ => ?_, fun y_ => absurd y_ (show ¬ (1 : Int32) = 0 by decide)⟩)
            exact ⟨v3, nx true (by rw [so]; exact @decide_eq_true _ (Classical.propDecidable _) w)⟩
          · have w : ¬ Ew A noS (aG c n r e) (dg n r e) := fun w => no ((hasW_E (fun v hv => (tv.2.1.2.2.1.1.2.2 v hv).2.2.1)).mpr ⟨fun y => z y.symm, w⟩)
            rw [sh_n tv.1.1 115 3 (by decide) (by decide) rfl, ed e en]
            (first | refine ⟨fun _ => ?_, fun n_ => absurd (show (0 : Int32) = 0 from rfl) n_⟩ | refine ⟨fun n_ => absurd (show (0 : Int32) = 0 from rfl) n_, fun _ => ?_⟩ | refine ⟨fun y_ => absurd y_ (show (0 : Int32) = 0 from rfl), fun _ => ?_⟩ | refine ⟨fun _ => ?_, fun y_ => absurd y_ (show (0 : Int32) = 0 from rfl)⟩)
            exact ⟨v3, nx false (by rw [so]; exact @decide_eq_false _ (Classical.propDecidable _) w)⟩
    -- the digits
    have l108 : ∀ (e : Nat) (v : ah_T), e ≤ n → tyO A g v → woM A k m c n r v → (∀ i, e ≤ i → i < n → ah_i v 115 i = nI (dg n r i)) → Wp mX12_worst Q 0 0 108 [some (.ref 82), some (.int (nI k)), some (.int (nI m)), some (.int (nI c)), some (.int (nI n)), some (.int x5), some (.int (nI (pw n))), some (.int (nI r)), some (.int (nI (r / pw (n - e)))), some (.int (nO e)), none, none] [] v := by
      intro e
      induction e with
      | zero =>
        intro v he tv wv ed
        refine T_X12_worst_108 tv.1.1 _ _ _ _ _ _ _ _ _ ?_
        (first | refine ⟨fun _ => ?_, fun n_ => absurd (show nO 0 < 0 by decide) n_⟩ | refine ⟨fun n_ => absurd (show nO 0 < 0 by decide) n_, fun _ => ?_⟩ | refine ⟨fun y_ => absurd y_ (show nO 0 < 0 by decide), fun _ => ?_⟩ | refine ⟨fun _ => ?_, fun y_ => absurd y_ (show nO 0 < 0 by decide)⟩)
        exact l147 n 0 v (by omega) tv wv (fun i hi => ed i (by omega) hi)
      | succ e ih3 =>
        intro v he tv wv ed
        have en : e < n := by omega
        refine T_X12_worst_108 tv.1.1 _ _ _ _ _ _ _ _ _ ?_
        rw [nO_s, nI_clamp (show e < 2 ^ 31 by omega), sh_n tv.1.1 115 3 (by decide) (by decide) rfl, show (12 : Int32) = nI 12 from rfl, nI_remI (by have := Nat.div_le_self r (pw (n - (e + 1))); omega) (by omega), nI_divI (by have := Nat.div_le_self r (pw (n - (e + 1))); omega) (by omega), nO_m1]
        (first | refine ⟨fun _ => ?_, fun n_ => absurd (show ¬ nI e < 0 from nI_nlt (b := 0) (by omega) (by omega)) n_⟩ | refine ⟨fun n_ => absurd (show ¬ nI e < 0 from nI_nlt (b := 0) (by omega) (by omega)) n_, fun _ => ?_⟩ | refine ⟨fun y_ => absurd y_ (show ¬ nI e < 0 from nI_nlt (b := 0) (by omega) (by omega)), fun _ => ?_⟩ | refine ⟨fun _ => ?_, fun y_ => absurd y_ (show ¬ nI e < 0 from nI_nlt (b := 0) (by omega) (by omega))⟩)
        refine ⟨(vp_nI (by omega)).mpr (by omega), ?_⟩
        rintro h17 rfl
        have ep : r / pw (n - (e + 1)) / 12 = r / pw (n - e) := by
          rw [Nat.div_div_eq_div_mul, show n - e = (n - (e + 1)) + 1 by omega, Nat.mul_comm]; rfl
        rw [ep]
        refine ih3 _ (by omega) (tyO_c (.inl rfl) tv) ?_ (fun i h1 h2 => ?_)
        · unfold woM at wv ⊢
          rw [ah_i_sn (by omega)]
          refine ⟨wv.1, fun y => ⟨(wv.2 y).1, fun i hi => ?_⟩⟩
          rw [ah_i_sn (by omega)]
          exact (wv.2 y).2 i hi
        · by_cases z : i = e
          · rw [z, ah_i_ss]
            unfold dg
            rw [show n - 1 - e = n - (e + 1) by omega]
          · rw [ah_i_sn (by omega)]; exact ed i (by omega) h2
    have st := l108 n u (Nat.le_refl _) ty wm (fun i h1 h2 => absurd h1 (by omega))
    rw [Nat.sub_self, show r / pw 0 = r from Nat.div_one r, ← nO_pred] at st
    exact st
end WR4
