/-! ===== the darkest way: the model ===== -/
section WR3
variable {KX : ah_T → Prop} {RX WX SX : (Nat → Nat) → ah_T → Prop} {A : Nat → Nat} {N : Nd} {h g h1 : ah_T} {g0 sp n k m c r : Nat} {p : Nat → Nat} {S : Ns}
theorem mdF_c {a j : Nat} {x : Int32} (o : a = 115 ∨ a = 116) (p : mdF h g) : mdF h (ah_si g a j x) := ⟨sh_si p.1, by rw [ah_x_si, p.2.1], fun b n => eqc_si (p.2.2.1 b n) (by omega), fun i n => by rw [ah_i_sn (by omega)]; exact p.2.2.2 i n⟩
theorem mQs_c {a j : Nat} {x : Int32} (o : a = 115 ∨ a = 116) (q : mQs A h) : mQs A (ah_si h a j x) := by
  obtain ⟨b1, b2, b3, b4⟩ := q
  exact ⟨mLw_fr (fun i => ah_i_sn (by omega)) b1, mKn_e (fun b hb i => ah_i_sn (by omega)) (ah_i_sn (by omega)) (ah_i_sn (by omega)) b2, mTw_fr (fun i => ah_i_sn (by omega)) b3, mSw_fr (fun i => ah_i_sn (by omega)) b4⟩
theorem tyO_c {a j : Nat} {x : Int32} (o : a = 115 ∨ a = 116) (t : tyO A h g) : tyO A h (ah_si g a j x) := by
  refine ⟨mdF_c o t.1, mQs_c o t.2.1, ?_⟩
  rcases t.2.2 with y | y
  · exact .inl (by rw [ah_i_sn (by omega)]; exact y)
  · exact .inr ⟨mNg_e (fun b hb i => ah_i_sn (by omega)) (ah_i_sn (by omega)) (ah_i_sn (by omega)) y.1, by rw [ah_i_sn (by omega)]; exact y.2⟩
theorem tyO_5 {j : Nat} {x : Int32} (o : 50 ≤ j ∧ j ≤ 59) (t : tyO A h g) : tyO A h (ah_si g 82 j x) := by
  refine ⟨mdF_s (by omega) t.1, mQs_2 (by omega) t.2.1, ?_⟩
  rcases t.2.2 with y | y
  · exact .inl (by rw [ah_i_sn (by omega)]; exact y)
  · exact .inr ⟨mNg_e (fun b hb i => ah_i_sn (by omega)) (ah_i_sn (by omega)) (ah_i_sn (by omega)) y.1, by rw [ah_i_sn (by omega)]; exact y.2⟩
theorem aG_s (g : Nat) : aG c n r (g + 1) = dg n r g := if_neg (by omega)
theorem m_carries {Q : Option Value → ah_T → Prop} (hs : Sh h) (f0 : lkF g h) (d : mND A (nd0 A) h) (w2 : A 248 ≤ 2) (hk : k < 6) (hm : m < 120) (hc : c < 12) (hn : n ≤ 3) (ed : ∀ i, i < n → ah_i h 115 i = nI (dg n r i)) {x1 x2 x3 x4 : Int32} (e1 : x1 = nI k) (e2 : x2 = nI m) (e3 : x3 = nI c) (e4 : x4 = nI n)
    (hq : ∀ u, lkF g u → mND A (ndC A k (goP m c n r)) u → Q none u) : Mt mX12_carries [.ref 82, .int x1, .int x2, .int x3, .int x4] h Q := by
  subst e1 e2 e3 e4
  have e42 : ah_i h 82 42 = nI (A 248) := d.2.2.1
  refine T_X12_carries hs _ _ _ _ ?_
  rw [e42, nI_clamp (show A 248 < 2 ^ 31 by omega), sh_n hs 108 3 (by decide) (by decide) rfl, n_120, nI_mul]
  refine ⟨(vp_nI (by omega)).mpr (by omega), ?_⟩
  intro h2 q2
  have f2 : lkF g h2 := by rw [q2]; exact lkF_s (by omega) f0
  have lp : ∀ (q j : Nat) (v : ah_T), j + q = 120 → lkF g v → (∀ a, a ≠ 107 → ∀ i, ah_i v a i = ah_i h2 a i) → (∀ i, i < 120 * A 248 → ah_i v 107 i = ah_i h2 107 i) → (∀ i, i < j → ah_i v 107 (120 * A 248 + i) = nO (goP m c n r i)) → Wp mX12_carries Q 0 0 22 [some (.ref 82), none, some (.int (nI m)), some (.int (nI c)), some (.int (nI n)), some (.int (nI (120 * A 248))), some (.int (nI j)), none] [] v := by
    intro q
    induction q with
    | zero =>
      intro j v hj f e ei ej
      have e9 : j = 120 := by omega
      subst e9
      refine T_X12_carries_22 f.1 _ _ _ _ _ ?_
      (first | refine ⟨fun _ => ?_, fun n_ => absurd (show 120 ≤ nI 120 from nI_le (a := 120) (by omega) (by omega)) n_⟩ | refine ⟨fun n_ => absurd (show 120 ≤ nI 120 from nI_le (a := 120) (by omega) (by omega)) n_, fun _ => ?_⟩ | refine ⟨fun y_ => absurd y_ (show 120 ≤ nI 120 from nI_le (a := 120) (by omega) (by omega)), fun _ => ?_⟩ | refine ⟨fun _ => ?_, fun y_ => absurd y_ (show 120 ≤ nI 120 from nI_le (a := 120) (by omega) (by omega))⟩)
      rw [e 82 (by decide), q2, ah_i_sn (by omega), e42, nI_1]
      rintro h6 rfl
      refine hq _ (lkF_s (by omega) f) (mND_C w2 hk (fun x _ => goP_le hc x) d (fun a ha x => ?_) ?_ ?_ ?_ (fun x hx => ?_) ?_ (fun x hx => ?_) (fun x hx => ?_))
      · rw [ah_i_sn (by omega), e a (by omega), q2, ah_i_sn (by omega)]
      · rw [ah_i_sn (by omega), e 82 (by omega), q2, ah_i_sn (by omega)]
      · rw [ah_i_sn (by omega), e 82 (by omega), q2, ah_i_sn (by omega)]
      · rw [ah_i_ss]
      · rw [ah_i_sn (by omega), e 108 (by omega), q2, ah_i_sn (by omega)]
      · rw [ah_i_sn (by omega), e 108 (by omega), q2, ah_i_ss]
      · rw [ah_i_sn (by omega), ei x hx, q2, ah_i_sn (by omega)]
      · rw [ah_i_sn (by omega)]; exact ej x hx
    | succ q ih =>
      intro j v hj f ev ei ej
      have v107 : vp_in (nI (120 * A 248 + j)) (ah_n v 107) := by rw [sh_n f.1 107 360 (by decide) (by decide) rfl]; exact (vp_nI (by omega)).mpr (by omega)
      refine T_X12_carries_22 f.1 _ _ _ _ _ ?_
      (first | refine ⟨fun _ => ?_, fun n_ => absurd (show ¬ 120 ≤ nI j from nI_ge (b := 120) (by omega) (by omega)) n_⟩ | refine ⟨fun n_ => absurd (show ¬ 120 ≤ nI j from nI_ge (b := 120) (by omega) (by omega)) n_, fun _ => ?_⟩ | refine ⟨fun y_ => absurd y_ (show ¬ 120 ≤ nI j from nI_ge (b := 120) (by omega) (by omega)), fun _ => ?_⟩ | refine ⟨fun _ => ?_, fun y_ => absurd y_ (show ¬ 120 ≤ nI j from nI_ge (b := 120) (by omega) (by omega))⟩)
      rw [nI_add, nI_1, nI_clamp (show 120 * A 248 + j < 2 ^ 31 by omega)]
      have nx : ∀ y : Int32, y = nO (goP m c n r j) → ∀ w, w = ah_si v 107 (120 * A 248 + j) y → Wp mX12_carries Q 0 0 22 [some (.ref 82), none, some (.int (nI m)), some (.int (nI c)), some (.int (nI n)), some (.int (nI (120 * A 248))), some (.int (nI (j + 1))), none] [] w := by
        rintro y ey w rfl
        refine ih (j + 1) _ (by omega) (lkF_s (by omega) f) (fun a n1 i => by rw [ah_i_sn (by omega)]; exact ev a n1 i) (fun i hi => by rw [ah_i_sn (by omega)]; exact ei i hi) (fun i hi => ?_)
        by_cases z : i = j
        · rw [z, ah_i_ss, ey]
        · rw [ah_i_sn (by omega)]; exact ej i (by omega)
      by_cases z : m ≤ j
      · (first | refine ⟨fun _ => ?_, fun n_ => absurd (show nI m ≤ nI j from nI_le z (by omega)) n_⟩ | refine ⟨fun n_ => absurd (show nI m ≤ nI j from nI_le z (by omega)) n_, fun _ => ?_⟩ | refine ⟨fun y_ => absurd y_ (show nI m ≤ nI j from nI_le z (by omega)), fun _ => ?_⟩ | refine ⟨fun _ => ?_, fun y_ => absurd y_ (show nI m ≤ nI j from nI_le z (by omega))⟩)
        rw [nI_sub z, lesserN (by omega) (by omega)]
        have gp : goP m c n r j = aG c n r (min (j - m) n) + 1 := if_neg (by omega)
        obtain ⟨e, ee⟩ : ∃ e, e = min (j - m) n := ⟨_, rfl⟩
        rw [← ee] at gp ⊢
        have en : e ≤ n := by omega
        refine ⟨fun y => ?_, fun y => ⟨v107, nx _ ?_⟩⟩
        · have e1 : 0 < e := by
            rcases Nat.eq_zero_or_pos e with w | w
            · rw [w] at y; exact absurd rfl y
            · exact w
          obtain ⟨e', rfl⟩ : ∃ e', e = e' + 1 := ⟨e - 1, by omega⟩
          have s1 : nI (e' + 1) - 1 = nI e' := by rw [show (1 : Int32) = nI 1 from rfl, nI_sub (by omega)]; rfl
          rw [s1, nI_clamp (show e' < 2 ^ 31 by omega), sh_n f.1 115 3 (by decide) (by decide) rfl]
          refine ⟨(vp_nI (by omega)).mpr (by omega), v107, nx _ ?_⟩
          rw [ev 115 (by decide), q2, ah_i_sn (by omega), ed e' (by omega), gp, nO_s, aG_s]
        · have e0 : e = 0 := by
            rw [show (0 : Int32) = nI 0 from rfl, nI_eq (by omega) (by omega)] at y
            exact y
          rw [gp, e0, nO_s]; rfl
      · (first | refine ⟨fun _ => ?_, fun n_ => absurd (show ¬ nI m ≤ nI j from nI_ge (by omega) (by omega)) n_⟩ | refine ⟨fun n_ => absurd (show ¬ nI m ≤ nI j from nI_ge (by omega) (by omega)) n_, fun _ => ?_⟩ | refine ⟨fun y_ => absurd y_ (show ¬ nI m ≤ nI j from nI_ge (by omega) (by omega)), fun _ => ?_⟩ | refine ⟨fun _ => ?_, fun y_ => absurd y_ (show ¬ nI m ≤ nI j from nI_ge (by omega) (by omega))⟩)
        refine ⟨v107, nx _ ?_⟩
        rw [goP_0 (by omega)]; rfl
  exact lp 120 0 h2 (by omega) f2 (fun _ _ _ => rfl) (fun _ _ => rfl) (fun i hi => absurd hi (by omega))
def woM (A : Nat → Nat) (k m c n r : Nat) (h : ah_T) : Prop := ((woF A k m c n r).1 = 1201 → ah_i h 82 55 = -1) ∧ ((woF A k m c n r).1 < 1201 → ah_i h 82 55 = nI (woF A k m c n r).1 ∧ ∀ i, i < n → ah_i h 116 i = nI (dg n (woF A k m c n r).2 i))
theorem m_triesGo {Q : Option Value → ah_T → Prop} {u : ah_T} (ty : tyO A g u) (h10 : A 246 ≤ 10) (hk : k < 6) (hm : m < 120) (hc : c < 12) (hn : n ≤ 3) (ok : okS A c n r n = true) (ed : ∀ i, i < n → ah_i u 115 i = nI (dg n r i)) (wm : woM A k m c n r u) {x1 x2 x3 x4 : Int32} (e1 : x1 = nI k) (e2 : x2 = nI m) (e3 : x3 = nI c) (e4 : x4 = nI n)
    (hq : ∀ v, tyO A g v → woM A k m c n (r + 1) v → Q none v) : Mt mX12_triesGo [.ref 82, .int x1, .int x2, .int x3, .int x4] u Q := by
  subst e1 e2 e3 e4
  refine T_X12_triesGo ty.1.1 _ _ _ _ ?_
  refine m_looks ty.1.1 ty.2.1.2.2.1 (fun g1 f1 d1 => ⟨rfl, f1.1, ?_⟩)
  have w2 := ty.2.1.2.2.1.2.2.2.2.2.2.1.1
  have ed1 : ∀ i, i < n → ah_i g1 115 i = nI (dg n r i) := fun i hi => by rw [(f1.2.2.1 115 (by decide) (by decide) (by decide) (by decide) (by decide) (by decide)).1]; exact ed i hi
  refine m_carries f1.1 f1 d1 w2 hk hm hc hn ed1 rfl rfl rfl rfl (fun g2 f2 d2 => ⟨rfl, f2.1, ?_⟩)
  refine m_tries f2.1 (mBa_l f2 d2 (Nat.le_refl _) ty.2.1) (by show A 246 ≤ A 246 + 1; omega) (fun g3 M f3 b3 hM t3 k7 k8 o e49' ej => ⟨rfl, f3.1, ?_⟩)
  have eM : M = 120 := by
    rcases o with o | o
    · exact o
    · exact absurd rfl o.1
  subst eM
  have ly := lyF_t (lyF_l f2) f3
  have md := mdF_t ty.1 (mdF_ly ly)
  have ty3 : tyO A g g3 := ⟨md, mQ_b ly b3 ty.2.1, .inl e49'⟩
  have e55 : ah_i g3 82 55 = ah_i u 82 55 := ly.2.2.2 55 (by omega)
  have e115 : ∀ i, ah_i g3 115 i = ah_i u 115 i := (ly.2.2.1 115 (by decide) (by decide) (by omega)).1
  have e116 : ∀ i, ah_i g3 116 i = ah_i u 116 i := (ly.2.2.1 116 (by decide) (by decide) (by omega)).1
  have T12 := wT_le (k := k) (m := m) (c := c) (n := n) (r := r) h10
  have k7' : ah_i g3 82 47 = nI (wT A k m c n r) := k7
  have W12 := (woF_le (A := A) (k := k) (m := m) (c := c) (n := n) r).1
  rw [k7', e55]
  have better : wT A k m c n r < (woF A k m c n r).1 → ∀ h11, h11 = ah_si g3 82 55 (nI (wT A k m c n r)) → Wp mX12_triesGo Q 0 0 49 [some (.ref 82), none, none, none, some (.int (nI n)), some (.int 0)] [] h11 := by
    intro lt h11 q11
    have eW : woF A k m c n (r + 1) = (wT A k m c n r, r) := by rw [woF_s, if_pos ⟨ok, lt⟩]
    have lp : ∀ (q i : Nat) (v : ah_T), i + q = n → tyO A g v → ah_i v 82 55 = nI (wT A k m c n r) → (∀ y, ah_i v 115 y = ah_i u 115 y) → (∀ y, y < i → ah_i v 116 y = nI (dg n r y)) → Wp mX12_triesGo Q 0 0 49 [some (.ref 82), none, none, none, some (.int (nI n)), some (.int (nI i))] [] v := by
      intro q
      induction q with
      | zero =>
        intro i v hi tv ev e5 ro
        have e9 : i = n := by omega
        subst e9
        refine T_X12_triesGo_49 tv.1.1 _ _ ?_
        (first | refine ⟨fun _ => ?_, fun n_ => absurd (show nI i ≤ nI i from nI_le (Nat.le_refl _) (by omega)) n_⟩ | refine ⟨fun n_ => absurd (show nI i ≤ nI i from nI_le (Nat.le_refl _) (by omega)) n_, fun _ => ?_⟩ | refine ⟨fun y_ => absurd y_ (show nI i ≤ nI i from nI_le (Nat.le_refl _) (by omega)), fun _ => ?_⟩ | refine ⟨fun _ => ?_, fun y_ => absurd y_ (show nI i ≤ nI i from nI_le (Nat.le_refl _) (by omega))⟩)
        refine hq v tv ⟨fun y => ?_, fun y => ?_⟩
        · rw [eW] at y
          have y2 : wT A k m c i r = 1201 := y
          omega
        · rw [eW]
          exact ⟨ev, ro⟩
      | succ q ih =>
        intro i v hi tv ev e5 ro
        refine T_X12_triesGo_49 tv.1.1 _ _ ?_
        (first | refine ⟨fun _ => ?_, fun n_ => absurd (show ¬ nI n ≤ nI i from nI_ge (by omega) (by omega)) n_⟩ | refine ⟨fun n_ => absurd (show ¬ nI n ≤ nI i from nI_ge (by omega) (by omega)) n_, fun _ => ?_⟩ | refine ⟨fun y_ => absurd y_ (show ¬ nI n ≤ nI i from nI_ge (by omega) (by omega)), fun _ => ?_⟩ | refine ⟨fun _ => ?_, fun y_ => absurd y_ (show ¬ nI n ≤ nI i from nI_ge (by omega) (by omega))⟩)
        rw [nI_1, nI_clamp (show i < 2 ^ 31 by omega), sh_n tv.1.1 115 3 (by decide) (by decide) rfl, sh_n tv.1.1 116 3 (by decide) (by decide) rfl]
        refine ⟨(vp_nI (by omega)).mpr (by omega), (vp_nI (by omega)).mpr (by omega), ?_⟩
        rintro h21 rfl
        refine ih (i + 1) _ (by omega) (tyO_c (.inr rfl) tv) (by rw [ah_i_sn (by omega)]; exact ev) (fun y => by rw [ah_i_sn (by omega)]; exact e5 y) (fun y hy => ?_)
        by_cases z : y = i
        · rw [z, ah_i_ss, e5, ed i (by omega)]
        · rw [ah_i_sn (by omega)]; exact ro y (by omega)
    have := lp n 0 h11 (by omega) (by rw [q11]; exact tyO_5 (by omega) ty3) (by rw [q11, ah_i_ss]) (fun y => by rw [q11, ah_i_sn (by omega)]; exact e115 y) (fun y hy => absurd hy (by omega))
    exact this
  rcases Nat.lt_or_ge (woF A k m c n r).1 1201 with W | W
  · obtain ⟨y1, y2⟩ := wm.2 W
    rw [y1]
    refine ⟨fun z => absurd z (nI_m1 (by omega)), fun _ => ⟨fun z => ?_, fun z => ?_⟩⟩
    · rw [nI_ltI (by omega) (by omega)] at z
      exact better z
    · rw [nI_ltI (by omega) (by omega)] at z
      have eW : woF A k m c n (r + 1) = woF A k m c n r := by rw [woF_s, if_neg (fun y => z y.2)]
      refine hq g3 ty3 ⟨fun y => ?_, fun _ => ?_⟩
      · rw [eW] at y; omega
      · rw [eW, e55]
        exact ⟨y1, fun i hi => by rw [e116]; exact y2 i hi⟩
  · have y1 := wm.1 (by omega)
    rw [y1]
    exact ⟨fun _ => better (by omega), fun z => absurd rfl z⟩
end WR3
