/-! ===== the class's night: who is shunned by a lamp, who yields ===== -/
section CS
variable {A : Nat → Nat} {N : Nd} {h g h1 : ah_T} {sp g0 : Nat} {S : Ns} {fr : Nat → Bool}
theorem b_ans {a s i : Nat} (ha : a = 0 ∨ a = 1) (hs : s < 32) (hi : i < 32) : bt (nI a <<< (nI s &&& 31)) i = (decide (i = s) && decide (a = 1)) := by
  rcases ha with rfl | rfl
  · rw [b_shl s hs _ hi, show nI 0 = 0 from rfl, b_0, Bool.and_false]
    simp
  · rw [show nI 1 = 1 from rfl, b_1sh hs hi]
    simp
theorem shS_la (l0 : lwO (lawL A) h) (hb : ¬ bt (usd h 0) 4 = true) (l k o ne la la' m : Nat) : shS9 A l k o ne la m = shS9 A l k o ne la' m := by
  have e := ans_wd l0 (.inl rfl) hb (w := wQ l k o ((ne : Int) - 1) la m (A 242) (A 244)) (w' := wQ l k o ((ne : Int) - 1) la' m (A 242) (A 244)) (fun j _ n5 => by unfold wQ; simp only [if_neg n5])
  unfold ansA at e
  rw [if_pos rfl, if_pos rfl] at e
  unfold shS9
  generalize ansS (lawL A) (wQ l k o ((ne : Int) - 1) la m (A 242) (A 244)) = x at e ⊢
  generalize ansS (lawL A) (wQ l k o ((ne : Int) - 1) la' m (A 242) (A 244)) = y at e ⊢
  cases x <;> cases y <;> first | rfl | exact absurd e (by decide)
theorem bt_ne {x : Int32} (h : ¬ x = 0) : ∃ i, i < 32 ∧ bt x i = true := by
  refine Classical.byContradiction (fun y => h (b_ext (fun i hi => ?_)))
  rw [b_0]
  cases e : bt x i
  · rfl
  · exact absurd ⟨i, hi, e⟩ y
theorem c_older {Q : Option Value → ah_T → Prop} (hs : Sh h) (d : cND A N sp h) {l : Nat} {x1 : Int32} (e1 : x1 = nI l) (hl : l < N.n) (hq : ∀ v, (∀ i, i < 32 → (bt v i = true ↔ i < N.n ∧ ¬ ah_i h 47 l ≤ ah_i h 47 i)) → Q (some (.int v)) h) : Mt mX3_olderThan [.ref 43, .int x1] h Q := by
  subst e1
  have w10 := d.1.1
  have n47 : ah_n h 47 = 10 := sh_n hs 47 10 (by decide) (by decide) rfl
  have lp : ∀ (q x : Nat) (v : Int32), x + q = N.n → (∀ i, i < 32 → (bt v i = true ↔ i < x ∧ ¬ ah_i h 47 l ≤ ah_i h 47 i)) → Wp mX3_olderThan Q 0 0 4 [some (.ref 43), some (.int (nI l)), some (.int v), some (.int (nI x))] [] h := by
    intro q
    induction q with
    | zero =>
      intro x v hx hv
      have e9 : x = N.n := by omega
      subst e9
      refine T_X3_olderThan_4 hs _ _ _ ?_
      rw [d.2.2.1]
      (first | refine ⟨fun _ => ?_, fun n_ => absurd (show nI N.n ≤ nI N.n from nI_le (by omega) (by omega)) n_⟩ | refine ⟨fun n_ => absurd (show nI N.n ≤ nI N.n from nI_le (by omega) (by omega)) n_, fun _ => ?_⟩ | refine ⟨fun y_ => absurd y_ (show nI N.n ≤ nI N.n from nI_le (by omega) (by omega)), fun _ => ?_⟩ | refine ⟨fun _ => ?_, fun y_ => absurd y_ (show nI N.n ≤ nI N.n from nI_le (by omega) (by omega))⟩)
      exact hq v hv
    | succ q ih =>
      intro x v hx hv
      refine T_X3_olderThan_4 hs _ _ _ ?_
      rw [d.2.2.1]
      (first | refine ⟨fun _ => ?_, fun n_ => absurd (show ¬ nI N.n ≤ nI x from nI_ge (by omega) (by omega)) n_⟩ | refine ⟨fun n_ => absurd (show ¬ nI N.n ≤ nI x from nI_ge (by omega) (by omega)) n_, fun _ => ?_⟩ | refine ⟨fun y_ => absurd y_ (show ¬ nI N.n ≤ nI x from nI_ge (by omega) (by omega)), fun _ => ?_⟩ | refine ⟨fun _ => ?_, fun y_ => absurd y_ (show ¬ nI N.n ≤ nI x from nI_ge (by omega) (by omega))⟩)
      rw [nI_1, nI_clamp (show l < 2 ^ 31 by omega), nI_clamp (show x < 2 ^ 31 by omega), n47]
      refine ⟨(vp_nI (by omega)).mpr (by omega), (vp_nI (by omega)).mpr (by omega), fun z => ?_, fun z => ?_⟩
      · refine ih (x + 1) v (by omega) (fun i hi => ?_)
        rw [hv i hi]
        refine ⟨fun y => ⟨by omega, y.2⟩, fun y => ⟨?_, y.2⟩⟩
        by_cases w : i = x
        · subst w; exact absurd z y.2
        · have := y.1; omega
      · refine ih (x + 1) _ (by omega) (fun i hi => (bt_set (by omega) hv i hi).trans ?_)
        refine ⟨fun y => ⟨y.1, ?_⟩, fun y => ⟨y.1, .inl y.2⟩⟩
        rcases y.2 with w | w
        · exact w
        · subst w; exact z
  refine T_X3_olderThan hs _ (lp N.n 0 0 (by omega) (fun i hi => ?_))
  rw [b_0]
  exact ⟨fun y => absurd y (by decide), fun y => by omega⟩
/-- whom a lamp shuns of those that burn -/
def sbB (A : Nat → Nat) (N : Nd) (S : Ns) (m l : Nat) (v : Int32) : Prop := ∀ i, i < 32 → (bt v i = true ↔ i < N.n ∧ i ≠ l ∧ S.bu i = true ∧ shL A N S m l i = true)
theorem c_shunnedBy {Q : Option Value → ah_T → Prop} (hs : Sh h) (t : tmN g0 A h) (d : cND A N sp h) (n : cNS N S fr h) {l m : Nat} {x1 x2 : Int32} (e1 : x1 = nI l) (e2 : x2 = nI m) (hl : l < N.n) (hb : S.bu l = true) (hm : m < 120) (hq : ∀ h' v, tmF h h' → tmN g0 A h' → sbB A N S m l v → Q (some (.int v)) h') : Mt mX3_shunnedBy [.ref 43, .int x1, .int x2] h Q := by
  subst e1 e2
  have wl := t.2.2.2.2.2.2.2.1
  have wl1 := wl.1
  have l0 := t.1.1
  have d' := d
  obtain ⟨⟨d0, d1, d2, d3⟩, ⟨f1, f2, f3, f4, f5, f6, f7, f8, f9⟩, d4, d5, d6, d7, d8, d9⟩ := d'
  have n' := n
  obtain ⟨m1, m2, m3, m4, m5, m6⟩ := n'
  have sil := (m1 l hl).1
  have vl : vp_in (nI l) 10 := (vp_nI (by omega)).mpr (by omega)
  -- lamps that are asked one by one
  have fin : ∀ (unk kn : Int32), (∀ i, i < 32 → bt kn i = true → i < N.n ∧ S.bu i = true ∧ i ≠ l ∧ i + 1 ≠ sp ∧ l + 1 ≠ sp) → (∀ i, i < 32 → bt unk i = true → i < N.n ∧ S.bu i = true ∧ i ≠ l) → (∀ i, i < 32 → i < N.n → S.bu i = true → i ≠ l → bt kn i = true ∨ bt unk i = true) → ∀ (q x : Nat) (g : ah_T) (v : Int32), x + q = N.n → tmF h g → tmN g0 A g → (∀ i, i < 32 → (bt v i = true ↔ (bt kn i = true ∧ shL A N S m l i = true) ∨ (i < x ∧ bt unk i = true ∧ shL A N S m l i = true))) → Wp mX3_shunnedBy Q 0 0 141 [some (.ref 43), some (.int (nI l)), some (.int (nI m)), some (.int unk), none, some (.int v), some (.int (nI x)), none, none] [] g := by
    intro unk kn k1 k2 k3 q
    have done : ∀ (g : ah_T) (v : Int32), tmF h g → tmN g0 A g → (∀ i, i < 32 → (bt v i = true ↔ (bt kn i = true ∧ shL A N S m l i = true) ∨ (bt unk i = true ∧ shL A N S m l i = true))) → Wp mX3_shunnedBy Q 0 0 252 [none, none, none, none, none, some (.int v), none, none, none] [] g := by
      intro g v fg tg hv
      refine T_X3_shunnedBy_252 fg.1 _ (hq g v fg tg (fun i hi => (hv i hi).trans ?_))
      constructor
      · rintro (⟨y1, y2⟩ | ⟨y1, y2⟩)
        · obtain ⟨p1, p2, p3, _⟩ := k1 i hi y1
          exact ⟨p1, p3, p2, y2⟩
        · obtain ⟨p1, p2, p3⟩ := k2 i hi y1
          exact ⟨p1, p3, p2, y2⟩
      · rintro ⟨p1, p2, p3, p4⟩
        rcases k3 i hi p1 p3 p2 with y | y
        · exact .inl ⟨y, p4⟩
        · exact .inr ⟨y, p4⟩
    induction q with
    | zero =>
      intro x g v hx fg tg hv
      have e9 : x = N.n := by omega
      subst e9
      refine T_X3_shunnedBy_141 fg.1 _ _ _ _ _ ?_
      rw [(tmF_n fg d).2.2.1]
      (first | refine ⟨fun _ => ?_, fun n_ => absurd (show nI N.n ≤ nI N.n from nI_le (by omega) (by omega)) n_⟩ | refine ⟨fun n_ => absurd (show nI N.n ≤ nI N.n from nI_le (by omega) (by omega)) n_, fun _ => ?_⟩ | refine ⟨fun y_ => absurd y_ (show nI N.n ≤ nI N.n from nI_le (by omega) (by omega)), fun _ => ?_⟩ | refine ⟨fun _ => ?_, fun y_ => absurd y_ (show nI N.n ≤ nI N.n from nI_le (by omega) (by omega))⟩)
      refine done g v fg tg (fun i hi => (hv i hi).trans ?_)
      refine ⟨fun y => y.elim .inl (fun y => .inr y.2), fun y => y.elim .inl (fun y => .inr ⟨(k2 i hi y.1).1, y⟩)⟩
    | succ q ih =>
      intro x g v hx fg tg hv
      have hx2 : x < N.n := by omega
      have dg := tmF_n fg d
      have ng := tmF_s fg n
      refine T_X3_shunnedBy_141 fg.1 _ _ _ _ _ ?_
      rw [dg.2.2.1]
      (first | refine ⟨fun _ => ?_, fun n_ => absurd (show ¬ nI N.n ≤ nI x from nI_ge (by omega) (by omega)) n_⟩ | refine ⟨fun n_ => absurd (show ¬ nI N.n ≤ nI x from nI_ge (by omega) (by omega)) n_, fun _ => ?_⟩ | refine ⟨fun y_ => absurd y_ (show ¬ nI N.n ≤ nI x from nI_ge (by omega) (by omega)), fun _ => ?_⟩ | refine ⟨fun _ => ?_, fun y_ => absurd y_ (show ¬ nI N.n ≤ nI x from nI_ge (by omega) (by omega))⟩)
      refine ⟨fun z => ?_, fun z => ?_⟩
      · refine done g v fg tg (fun i hi => (hv i hi).trans ?_)
        rw [z, b_0]
        refine ⟨fun y => y.elim .inl (fun y => absurd y.2.1 (by decide)), fun y => y.elim .inl (fun y => absurd y.1 (by decide))⟩
      rw [b_bit _ x (by omega)]
      refine ⟨fun y => ?_, fun y => ?_⟩
      · have ux : bt unk x = true := by cases e : bt unk x; exact absurd e y; rfl
        obtain ⟨p1, p2, p3⟩ := k2 x (by omega) ux
        obtain ⟨c1, c2⟩ := dg.2.2.2.2.2.1 l hl
        obtain ⟨c3, c4⟩ := dg.2.2.2.2.2.1 x hx2
        obtain ⟨v1, v2⟩ := d1 l hl
        obtain ⟨v3, v4⟩ := d1 x hx2
        have six := (m1 x hx2).1
        have b1 := (ng.2.2.2.2.2 l hl).2.1 hb
        have b2 := (ng.2.2.2.2.2 x hx2).2.1 p2
        have vx : vp_in (nI x) 10 := (vp_nI (by omega)).mpr (by omega)
        have sg := tg.2.2.2.2.1
        obtain ⟨s1, s2, s3⟩ := sgv_in (sg _ _ v1 v3)
        rw [nI_clamp (show l < 2 ^ 31 by omega), nI_clamp (show x < 2 ^ 31 by omega), c1, c2, c3, c4, b1, b2, f_sight v1 v3, sh_n fg.1 44 10 (by decide) (by decide) rfl, sh_n fg.1 45 10 (by decide) (by decide) rfl, sh_n fg.1 47 10 (by decide) (by decide) rfl]
        refine ⟨vl, vx, v_sight fg.1 v1 v3, vl, vx, ?_⟩
        have nx : ∀ (g2 : ah_T) (la : Nat), la = (if S.si x < S.si l then 1 else 0) → tmF h g2 → tmN g0 A g2 → Wp mX3_shunnedBy Q 0 0 246 [some (.ref 43), some (.int (nI l)), some (.int (nI m)), some (.int unk), none, some (.int (v ||| (nI (ansA (lawL A) 0 (wQ l (N.ki l) (N.ki x) (sgv A (N.co l) (N.co x)) la m (A 242) (A 244))) <<< (nI x &&& 31)))), some (.int (nI x)), none, none] [] g2 := by
          intro g2 la ela f2 t2
          refine T_X3_shunnedBy_246 f2.1 _ _ _ _ _ ?_
          rw [nI_1]
          refine ih (x + 1) g2 _ (by omega) f2 t2 (fun i hi => ?_)
          have si := shS_iff (l := l) (k := N.ki l) (o := N.ki x) (la := la) (mi := m) (sg _ _ v1 v3)
          rw [b_or, Bool.or_eq_true, hv i hi, b_ans (ansA0 _ _) (by omega) hi, Bool.and_eq_true, decide_eq_true_eq, decide_eq_true_eq, si]
          have eL : shL A N S m l x = shS9 A l (N.ki l) (N.ki x) (sgN A (N.co l) (N.co x)) la m := by unfold shL; rw [ela]
          constructor
          · rintro ((w | ⟨w1, w2⟩) | ⟨w1, w2⟩)
            · exact .inl w
            · exact .inr ⟨by omega, w2⟩
            · subst w1
              exact .inr ⟨by omega, ux, by rw [eL]; exact w2⟩
          · rintro (w | ⟨w1, w2, w3⟩)
            · exact .inl (.inl w)
            · by_cases u : i = x
              · subst u
                exact .inr ⟨rfl, by rw [← eL]; exact w3⟩
              · exact .inl (.inr ⟨by omega, w2, w3⟩)
        by_cases so : S.si x < S.si l
        · (first | refine ⟨fun _ => ?_, fun n_ => absurd (show ¬ nI (S.si l) ≤ nI (S.si x) from nI_ge so (by omega)) n_⟩ | refine ⟨fun n_ => absurd (show ¬ nI (S.si l) ≤ nI (S.si x) from nI_ge so (by omega)) n_, fun _ => ?_⟩ | refine ⟨fun y_ => absurd y_ (show ¬ nI (S.si l) ≤ nI (S.si x) from nI_ge so (by omega)), fun _ => ?_⟩ | refine ⟨fun _ => ?_, fun y_ => absurd y_ (show ¬ nI (S.si l) ≤ nI (S.si x) from nI_ge so (by omega))⟩)
          refine ⟨vl, vx, c_ask fg.1 tg.1 tg.2.1 tg.2.2.1 (what := 0) (w := wQ l (N.ki l) (N.ki x) (sgv A (N.co l) (N.co x)) ((1 : Nat) : Int) m (A 242) (A 244)) rfl (by omega) (nI_toInt (by omega)) (nI_toInt (by omega)) (nI_toInt (by omega)) s1 rfl (nI_toInt (by omega)) rfl rfl (wQ_rg ⟨by omega, by omega⟩ ⟨by omega, by omega⟩ ⟨by omega, by omega⟩ ⟨by omega, by omega⟩ ⟨by omega, by omega⟩ ⟨by omega, by omega⟩) (fun g2 f2 tp2 => ⟨_, rfl, f2.1, ?_⟩)⟩
          exact nx g2 1 (if_pos so).symm (tmF_t fg (tmF_ak f2)) (tm_ask f2 tp2 tg)
        · (first | refine ⟨fun _ => ?_, fun n_ => absurd (show nI (S.si l) ≤ nI (S.si x) from nI_le (by omega) (by omega)) n_⟩ | refine ⟨fun n_ => absurd (show nI (S.si l) ≤ nI (S.si x) from nI_le (by omega) (by omega)) n_, fun _ => ?_⟩ | refine ⟨fun y_ => absurd y_ (show nI (S.si l) ≤ nI (S.si x) from nI_le (by omega) (by omega)), fun _ => ?_⟩ | refine ⟨fun _ => ?_, fun y_ => absurd y_ (show nI (S.si l) ≤ nI (S.si x) from nI_le (by omega) (by omega))⟩)
          refine ⟨vl, vx, c_ask fg.1 tg.1 tg.2.1 tg.2.2.1 (what := 0) (w := wQ l (N.ki l) (N.ki x) (sgv A (N.co l) (N.co x)) ((0 : Nat) : Int) m (A 242) (A 244)) rfl (by omega) (nI_toInt (by omega)) (nI_toInt (by omega)) (nI_toInt (by omega)) s1 rfl (nI_toInt (by omega)) rfl rfl (wQ_rg ⟨by omega, by omega⟩ ⟨by omega, by omega⟩ ⟨by omega, by omega⟩ ⟨by omega, by omega⟩ ⟨by omega, by omega⟩ ⟨by omega, by omega⟩) (fun g2 f2 tp2 => ⟨_, rfl, f2.1, ?_⟩)⟩
          exact nx g2 0 (if_neg so).symm (tmF_t fg (tmF_ak f2)) (tm_ask f2 tp2 tg)
      · refine T_X3_shunnedBy_246 fg.1 _ _ _ _ _ ?_
        rw [nI_1]
        refine ih (x + 1) g v (by omega) fg tg (fun i hi => (hv i hi).trans ?_)
        refine ⟨fun w => w.elim .inl (fun w => .inr ⟨by omega, w.2⟩), fun w => w.elim .inl (fun w => .inr ⟨?_, w.2⟩)⟩
        by_cases u : i = x
        · subst u
          rw [y] at w
          exact absurd w.2.1 (by decide)
        · have := w.1; omega
  have mid : ∀ (unk kn : Int32), (∀ i, i < 32 → bt kn i = true → i < N.n ∧ S.bu i = true ∧ i ≠ l ∧ i + 1 ≠ sp ∧ l + 1 ≠ sp) → (∀ i, i < 32 → bt unk i = true → i < N.n ∧ S.bu i = true ∧ i ≠ l) → (∀ i, i < 32 → i < N.n → S.bu i = true → i ≠ l → bt kn i = true ∨ bt unk i = true) →
      ((kn = 0 → Wp mX3_shunnedBy Q 0 0 138 [some (.ref 43), some (.int (nI l)), some (.int (nI m)), some (.int unk), none, some (.int 0), none, none, none] [] h) ∧ (¬ kn = 0 → (Mt mX8_heeds [.ref 38, .int 0, .int 4] h (ab_qi fun v6 h4 => Sh h4 ∧ ((v6 = 0 → (Mt mX8_hated [.ref 38, .int (nI l), .int 0, .int (nI m)] h4 (ab_qi fun v10 h8 => Sh h8 ∧ Wp mX3_shunnedBy Q 0 0 138 [some (.ref 43), some (.int (nI l)), some (.int (nI m)), some (.int unk), none, some (.int ((v10 &&& kn) &&& (0 ^^^ (-1)))), none, none, none] [] h8))) ∧ (¬ v6 = 0 → (Mt mX3_olderThan [.ref 43, .int (nI l)] h4 (ab_qi fun v13 h11 => Sh h11 ∧ (Mt mX8_hated [.ref 38, .int (nI l), .int 0, .int (nI m)] h11 (ab_qi fun v16 h14 => Sh h14 ∧ ((v13 = 0 → Wp mX3_shunnedBy Q 0 0 138 [some (.ref 43), some (.int (nI l)), some (.int (nI m)), some (.int unk), none, some (.int ((v16 &&& kn) &&& (v13 ^^^ (-1)))), none, none, none] [] h14) ∧ (¬ v13 = 0 → (Mt mX8_hated [.ref 38, .int (nI l), .int 1, .int (nI m)] h14 (ab_qi fun v20 h18 => Sh h18 ∧ Wp mX3_shunnedBy Q 0 0 138 [some (.ref 43), some (.int (nI l)), some (.int (nI m)), some (.int unk), none, some (.int (((v16 &&& kn) &&& (v13 ^^^ (-1))) ||| ((v20 &&& kn) &&& v13))), none, none, none] [] h18)))))))))))))) := by
    intro unk kn k1 k2 k3
    have st : ∀ (g : ah_T) (v : Int32), tmF h g → tmN g0 A g → (∀ i, i < 32 → (bt v i = true ↔ (bt kn i = true ∧ shL A N S m l i = true))) → Wp mX3_shunnedBy Q 0 0 138 [some (.ref 43), some (.int (nI l)), some (.int (nI m)), some (.int unk), none, some (.int v), none, none, none] [] g := by
      intro g v fg tg hv
      refine T_X3_shunnedBy_138 fg.1 _ _ _ _ (fin unk kn k1 k2 k3 N.n 0 g v (by omega) fg tg (fun i hi => (hv i hi).trans ?_))
      exact ⟨fun y => .inl y, fun y => y.elim id (fun y => absurd y.1 (by omega))⟩
    refine ⟨fun z => st h 0 (tmF_r hs) t (fun i hi => ?_), fun z => ?_⟩
    · rw [b_0, z, b_0]
      exact ⟨fun y => absurd y (by decide), fun y => absurd y.1 (by decide)⟩
    obtain ⟨w, hw, bw⟩ := bt_ne z
    have nsp := (k1 w hw bw).2.2.2.2
    have hl2 : l < A 246 := by
      rcases Nat.lt_or_ge l (A 246) with y | y
      · exact y
      · have := f5 (by omega); omega
    -- what is hated, by later
    have hat : ∀ (la : Nat) (v : Int32), htB (lawL A) (A 242) (A 244) A l la m v → ∀ i, i < 32 → bt kn i = true → (bt v i = true ↔ shS9 A l (N.ki l) (N.ki i) (sgN A (N.co l) (N.co i)) la m = true) := by
      intro la v hv i hi bi
      obtain ⟨p1, p2, p3, p4, p5⟩ := k1 i hi bi
      have hi2 : i < A 246 := by
        rcases Nat.lt_or_ge i (A 246) with y | y
        · exact y
        · have := f5 (by omega); omega
      obtain ⟨q1, q2⟩ := f4 i hi2
      obtain ⟨q3, q4⟩ := f4 l hl2
      obtain ⟨r1, r2, _⟩ := wl.2 i hi2
      obtain ⟨r3, r4, _⟩ := wl.2 l hl2
      rw [hv i hi, q1, q2 p4, q3, q4 p5, shS_iff (t.2.2.2.2.1 _ _ r3 r1)]
      exact ⟨fun y => y.2.2, fun y => ⟨hi2, p3, y⟩⟩
    refine c_heeds hs l0 (what := 0) (b := 4) rfl rfl (by omega) (by omega) ⟨_, rfl, hs, ?_⟩
    by_cases y : bt (usd h 0) 4 = true
    · rw [if_pos y]
      (first | refine ⟨fun _ => ?_, fun n_ => absurd (show ¬ (1 : Int32) = 0 by decide) n_⟩ | refine ⟨fun n_ => absurd (show ¬ (1 : Int32) = 0 by decide) n_, fun _ => ?_⟩ | refine ⟨fun y_ => absurd y_ (show ¬ (1 : Int32) = 0 by decide), fun _ => ?_⟩ | refine ⟨fun _ => ?_, fun y_ => absurd y_ (show ¬ (1 : Int32) = 0 by decide)⟩)
      refine c_older hs d rfl hl (fun v13 b13 => ⟨_, rfl, hs, ?_⟩)
      have old : ∀ i, i < 32 → bt kn i = true → (bt v13 i = true ↔ S.si i < S.si l) := by
        intro i hi bi
        obtain ⟨p1, p2, p3, p4, p5⟩ := k1 i hi bi
        rw [b13 i hi, (m6 l hl).2.1 hb, (m6 i p1).2.1 p2]
        have six := (m1 i p1).1
        constructor
        · intro u
          rcases Nat.lt_or_ge (S.si i) (S.si l) with u2 | u2
          · exact u2
          · exact absurd (nI_le u2 (by omega)) u.2
        · intro u
          exact ⟨p1, nI_ge u (by omega)⟩
      refine c_hated hs t rfl rfl rfl hl2 (by omega : (0 : Nat) < 2) hm (fun g1 v16 f1 t1 h16 => ⟨_, rfl, f1.1, fun z13 => st g1 _ f1 t1 (fun i hi => ?_), fun z13 => ?_⟩)
      · have a := hat 0 v16 h16 i hi
        rw [b_and, b_and, b_not _ hi, Bool.and_eq_true, Bool.and_eq_true, Bool.not_eq_true']
        constructor
        · rintro ⟨⟨u1, u2⟩, u3⟩
          refine ⟨u2, ?_⟩
          unfold shL
          rw [if_neg (fun u => by rw [(old i hi u2).mpr u] at u3; exact absurd u3 (by decide))]
          exact (a u2).mp u1
        · rintro ⟨u2, u4⟩
          have u3 : bt v13 i = false := by rw [z13, b_0]
          unfold shL at u4
          rw [if_neg (fun u => by rw [(old i hi u2).mpr u] at u3; exact absurd u3 (by decide))] at u4
          exact ⟨⟨(a u2).mpr u4, u2⟩, u3⟩
      · refine c_hated f1.1 t1 rfl rfl rfl hl2 (by omega : (1 : Nat) < 2) hm (fun g2 v20 f2 t2 h20 => ⟨_, rfl, f2.1, st g2 _ (tmF_t f1 f2) t2 (fun i hi => ?_)⟩)
        have a := hat 0 v16 h16 i hi
        have a' := hat 1 v20 h20 i hi
        rw [b_or, b_and, b_and, b_and, b_and, b_not _ hi, Bool.or_eq_true, Bool.and_eq_true, Bool.and_eq_true, Bool.and_eq_true, Bool.and_eq_true, Bool.not_eq_true']
        unfold shL
        constructor
        · rintro (⟨⟨u1, u2⟩, u3⟩ | ⟨⟨u1, u2⟩, u3⟩)
          · refine ⟨u2, ?_⟩
            rw [if_neg (fun u => by rw [(old i hi u2).mpr u] at u3; exact absurd u3 (by decide))]
            exact (a u2).mp u1
          · refine ⟨u2, ?_⟩
            rw [if_pos ((old i hi u2).mp u3)]
            exact (a' u2).mp u1
        · rintro ⟨u2, u4⟩
          by_cases u : S.si i < S.si l
          · rw [if_pos u] at u4
            exact .inr ⟨⟨(a' u2).mpr u4, u2⟩, (old i hi u2).mpr u⟩
          · rw [if_neg u] at u4
            refine .inl ⟨⟨(a u2).mpr u4, u2⟩, ?_⟩
            cases e : bt v13 i
            · rfl
            · exact absurd ((old i hi u2).mp e) u
    · rw [if_neg y]
      (first | refine ⟨fun _ => ?_, fun n_ => absurd (show (0 : Int32) = 0 by rfl) n_⟩ | refine ⟨fun n_ => absurd (show (0 : Int32) = 0 by rfl) n_, fun _ => ?_⟩ | refine ⟨fun y_ => absurd y_ (show (0 : Int32) = 0 by rfl), fun _ => ?_⟩ | refine ⟨fun _ => ?_, fun y_ => absurd y_ (show (0 : Int32) = 0 by rfl)⟩)
      refine c_hated hs t rfl rfl rfl hl2 (by omega : (0 : Nat) < 2) hm (fun g1 v16 f1 t1 h16 => ⟨_, rfl, f1.1, st g1 _ f1 t1 (fun i hi => ?_)⟩)
      have a := hat 0 v16 h16 i hi
      rw [b_and, b_and, b_not _ hi, b_0, Bool.not_false, Bool.and_true, Bool.and_eq_true]
      unfold shL
      rw [shS_la l0 y l (N.ki l) (N.ki i) (sgN A (N.co l) (N.co i)) (if S.si i < S.si l then 1 else 0) 0 m]
      exact ⟨fun u => ⟨u.2, (a u.2).mp u.1⟩, fun u => ⟨(a u.1).mpr u.2, u.1⟩⟩
  have nl : ∀ i, i < 32 → bt (((1 : Int32) <<< (nI l &&& 31)) ^^^ (-1)) i = !decide (i = l) := fun i hi => by rw [b_not _ hi, b_1sh (by omega) hi]
  refine T_X3_shunnedBy hs _ _ ?_
  rw [d6]
  by_cases zs : sp = 0
  · rw [zs]
    (first | refine ⟨fun _ => ?_, fun n_ => absurd (show nO 0 = -1 from rfl) n_⟩ | refine ⟨fun n_ => absurd (show nO 0 = -1 from rfl) n_, fun _ => ?_⟩ | refine ⟨fun y_ => absurd y_ (show nO 0 = -1 from rfl), fun _ => ?_⟩ | refine ⟨fun _ => ?_, fun y_ => absurd y_ (show nO 0 = -1 from rfl)⟩)
    refine mid 0 _ (fun i hi y => ?_) (fun i hi y => ?_) (fun i hi y1 y2 y3 => .inl ?_)
    · rw [b_and, b_and, nl i hi, b_not _ hi, b_0, Bool.not_false, Bool.and_true, Bool.and_eq_true, m3 i hi, Bool.not_eq_true', decide_eq_false_iff_not] at y
      exact ⟨y.1.1, y.1.2, y.2, by omega, by omega⟩
    · rw [b_0] at y; exact absurd y (by decide)
    · rw [b_and, b_and, nl i hi, b_not _ hi, b_0, Bool.not_false, Bool.and_true, Bool.and_eq_true, m3 i hi, Bool.not_eq_true', decide_eq_false_iff_not]
      exact ⟨⟨y1, y2⟩, y3⟩
  · obtain ⟨s, es⟩ : ∃ s, sp = s + 1 := ⟨sp - 1, by omega⟩
    rw [es, nO_s]
    (first | refine ⟨fun _ => ?_, fun n_ => absurd (nI_m1 (show s < 2 ^ 31 by omega)) n_⟩ | refine ⟨fun n_ => absurd (nI_m1 (show s < 2 ^ 31 by omega)) n_, fun _ => ?_⟩ | refine ⟨fun y_ => absurd y_ (nI_m1 (show s < 2 ^ 31 by omega)), fun _ => ?_⟩ | refine ⟨fun _ => ?_, fun y_ => absurd y_ (nI_m1 (show s < 2 ^ 31 by omega))⟩)
    rw [nI_eq (show l < 2 ^ 31 by omega) (show s < 2 ^ 31 by omega)]
    refine ⟨fun y => ?_, fun y => ?_⟩
    · have ns : ∀ i, i < 32 → bt ((1 : Int32) <<< (nI s &&& 31)) i = decide (i = s) := fun i hi => b_1sh (by omega) hi
      refine mid _ _ (fun i hi u => ?_) (fun i hi u => ?_) (fun i hi y1 y2 y3 => ?_)
      · rw [b_and, b_and, nl i hi, b_not _ hi, b_and, ns i hi, Bool.and_eq_true, Bool.and_eq_true, m3 i hi, Bool.not_eq_true', Bool.not_eq_true', decide_eq_false_iff_not] at u
        obtain ⟨⟨⟨u1, u2⟩, u3⟩, u4⟩ := u
        have bi : bt (ah_i h 43 5) i = true := (m3 i hi).mpr ⟨u1, u2⟩
        rw [bi, Bool.true_and, decide_eq_false_iff_not] at u3
        exact ⟨u1, u2, u4, by omega, by omega⟩
      · rw [b_and, ns i hi, Bool.and_eq_true, m3 i hi, decide_eq_true_eq] at u
        exact ⟨u.1.1, u.1.2, by omega⟩
      · have bi : bt (ah_i h 43 5) i = true := (m3 i hi).mpr ⟨y1, y2⟩
        by_cases w : i = s
        · refine .inr ?_
          rw [b_and, ns i hi, bi, decide_eq_true w]; rfl
        · refine .inl ?_
          rw [b_and, b_and, nl i hi, b_not _ hi, b_and, ns i hi, bi, decide_eq_false w, decide_eq_false y3]; rfl
    · subst y
      refine mid _ _ (fun i hi u => ?_) (fun i hi u => ?_) (fun i hi y1 y2 y3 => .inr ?_)
      · rw [b_and, b_and, nl i hi, b_not _ hi, b_and, nl i hi, Bool.and_eq_true, Bool.and_eq_true, Bool.not_eq_true', Bool.not_eq_true', decide_eq_false_iff_not] at u
        obtain ⟨⟨u1, u3⟩, u4⟩ := u
        rw [u1, Bool.true_and, decide_eq_false u4] at u3
        exact absurd u3 (by decide)
      · rw [b_and, nl i hi, Bool.and_eq_true, m3 i hi, Bool.not_eq_true', decide_eq_false_iff_not] at u
        exact ⟨u.1.1, u.1.2, u.2⟩
      · rw [b_and, nl i hi, (m3 i hi).mpr ⟨y1, y2⟩, decide_eq_false y3]; rfl
/-- the class's row of those shunned -/
def s52 (A : Nat → Nat) (N : Nd) (S : Ns) (m b : Nat) (h : ah_T) : Prop := ∀ j, j < b → (S.bu j = true → sbB A N S m j (ah_i h 52 j)) ∧ (S.bu j = false → ah_i h 52 j = 0)
theorem c_yields {Q : Option Value → ah_T → Prop} (hs : Sh h) (d : cND A N sp h) (n : cNS N S fr h) {l m : Nat} {x1 : Int32} (e1 : x1 = nI l) (hl : l < N.n) (hb : S.bu l = true) (s5 : s52 A N S m N.n h) (hq : Q (some (.int (bI ((List.range N.n).any (drO A N S m l))))) h) : Mt mX3_yields [.ref 43, .int x1] h Q := by
  subst e1
  have w10 := d.1.1
  obtain ⟨m1, m2, m3, m4, m5, m6⟩ := n
  have sil := (m1 l hl).1
  have n52 : ah_n h 52 = 10 := sh_n hs 52 10 (by decide) (by decide) rfl
  have n47 : ah_n h 47 = 10 := sh_n hs 47 10 (by decide) (by decide) rfl
  have vl : vp_in (nI l) 10 := (vp_nI (by omega)).mpr (by omega)
  have sl := (s5 l hl).1 hb
  have lp : ∀ (q x : Nat), x + q = N.n → (∀ o, o < x → drO A N S m l o = false) → Wp mX3_yields Q 0 0 2 [some (.ref 43), some (.int (nI l)), some (.int (nI x))] [] h := by
    intro q
    induction q with
    | zero =>
      intro x hx no
      have e9 : x = N.n := by omega
      subst e9
      refine T_X3_yields_2 hs _ _ ?_
      rw [d.2.2.1]
      (first | refine ⟨fun _ => ?_, fun n_ => absurd (show nI N.n ≤ nI N.n from nI_le (by omega) (by omega)) n_⟩ | refine ⟨fun n_ => absurd (show nI N.n ≤ nI N.n from nI_le (by omega) (by omega)) n_, fun _ => ?_⟩ | refine ⟨fun y_ => absurd y_ (show nI N.n ≤ nI N.n from nI_le (by omega) (by omega)), fun _ => ?_⟩ | refine ⟨fun _ => ?_, fun y_ => absurd y_ (show nI N.n ≤ nI N.n from nI_le (by omega) (by omega))⟩)
      rw [anyF no] at hq
      exact hq
    | succ q ih =>
      intro x hx no
      have hx2 : x < N.n := by omega
      have vx : vp_in (nI x) 10 := (vp_nI (by omega)).mpr (by omega)
      have yes : drO A N S m l x = true → Q (some (.int 1)) h := fun y => by
        rw [anyT hx2 y] at hq
        exact hq
      have nx : drO A N S m l x = false → Wp mX3_yields Q 0 0 2 [some (.ref 43), some (.int (nI l)), some (.int (nI (x + 1)))] [] h := by
        intro y
        refine ih (x + 1) (by omega) (fun o ho => ?_)
        by_cases z : o = x
        · subst z; exact y
        · exact no o (by omega)
      have bl := sl x (by omega)
      refine T_X3_yields_2 hs _ _ ?_
      rw [d.2.2.1]
      (first | refine ⟨fun _ => ?_, fun n_ => absurd (show ¬ nI N.n ≤ nI x from nI_ge (by omega) (by omega)) n_⟩ | refine ⟨fun n_ => absurd (show ¬ nI N.n ≤ nI x from nI_ge (by omega) (by omega)) n_, fun _ => ?_⟩ | refine ⟨fun y_ => absurd y_ (show ¬ nI N.n ≤ nI x from nI_ge (by omega) (by omega)), fun _ => ?_⟩ | refine ⟨fun _ => ?_, fun y_ => absurd y_ (show ¬ nI N.n ≤ nI x from nI_ge (by omega) (by omega))⟩)
      rw [nI_1, nI_clamp (show l < 2 ^ 31 by omega), nI_clamp (show x < 2 ^ 31 by omega), n52, n47, b_bit _ x (by omega), b_bit _ l (by omega)]
      refine ⟨vl, fun z => nx ?_, fun z => ⟨vx, ?_⟩⟩
      · unfold drO
        cases e1 : decide (x ≠ l) with
        | false => rfl
        | true =>
          cases e2 : S.bu x with
          | false => rfl
          | true =>
            cases e3 : shL A N S m l x with
            | false => rfl
            | true =>
              have := bl.mpr ⟨hx2, of_decide_eq_true e1, e2, e3⟩
              rw [z] at this
              exact absurd this (by decide)
      · have zt : bt (ah_i h 52 l) x = true := by cases e : bt (ah_i h 52 l) x; exact absurd e z; rfl
        obtain ⟨p1, p2, p3, p4⟩ := bl.mp zt
        have bx := (s5 x hx2).1 p3 l (by omega)
        have six := (m1 x hx2).1
        have ed : drO A N S m l x = !(ltr S x l && shL A N S m x l) := by
          unfold drO
          rw [decide_eq_true p2, p3, p4, Bool.true_and, Bool.true_and, Bool.true_and]
        have ec : f_X3_cameLater h (nI x) (nI l) = bI (ltr S x l) := by
          unfold f_X3_cameLater
          rw [nI_clamp (show l < 2 ^ 31 by omega), nI_clamp (show x < 2 ^ 31 by omega), (m6 l hl).2.1 hb, (m6 x hx2).2.1 p3]
          unfold ltr
          by_cases u1 : S.si l < S.si x
          · rw [if_pos (nI_lt u1 (by omega)), decide_eq_true (.inl u1)]; rfl
          · rw [if_neg (by rw [nI_ltI (by omega) (by omega)]; exact u1)]
            by_cases u2 : S.si x = S.si l
            · rw [if_pos (by rw [u2])]
              by_cases u3 : x ≤ l
              · rw [if_pos (nI_le u3 (by omega)), decide_eq_false (by omega)]; rfl
              · rw [if_neg (nI_ge (by omega) (by omega)), decide_eq_true (.inr ⟨u2, by omega⟩)]; rfl
            · rw [if_neg (by rw [nI_eq (by omega) (by omega)]; exact u2), decide_eq_false (by omega)]; rfl
        rw [ec, bI_0]
        refine ⟨fun y => yes ?_, fun y => ⟨vx, vl, fun _ => vx, fun _ => vl, fun w => nx ?_, fun w => yes ?_⟩⟩
        · rw [ed]
          cases e3 : shL A N S m x l with
          | false => rw [Bool.and_false]; rfl
          | true =>
            have := bx.mpr ⟨hl, fun u => p2 u.symm, hb, e3⟩
            rw [y] at this
            exact absurd this (by decide)
        · have yt : bt (ah_i h 52 x) l = true := by cases e : bt (ah_i h 52 x) l; exact absurd e y; rfl
          have wt : ltr S x l = true := by cases e : ltr S x l; exact absurd e w; rfl
          rw [ed, wt, (bx.mp yt).2.2.2]
          rfl
        · rw [ed, w]
          rfl
  exact T_X3_yields hs _ (lp N.n 0 (by omega) (fun o ho => by omega))
end CS
