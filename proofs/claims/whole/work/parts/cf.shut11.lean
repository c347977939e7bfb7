/-! ===== shutters: the model ===== -/
def mkO (st : Nat × Nat) (h : ah_T) : Prop := ah_i h 82 60 = nO st.1 ∧ ah_i h 82 61 = nI st.2
/-- the model's cache of shutters -/
def shX (A : Nat → Nat) (h : ah_T) : Prop := ah_i h 82 62 = ah_i h 82 1 → mkO (shR (gS A) (A 245) 3) h
def mfF (h g : ah_T) : Prop := Sh g ∧ ah_x g = ah_x h ∧ (∀ a, (a < 82 ∨ (83 ≤ a ∧ a ≤ 88) ∨ 122 ≤ a) → eqc h g a) ∧ ∀ j, (j = 0 ∨ j = 1 ∨ j = 6 ∨ j = 11 ∨ j = 12 ∨ j = 66 ∨ j = 77) → ah_i g 82 j = ah_i h 82 j
section MS
variable {KX : ah_T → Prop} {RX WX SX : (Nat → Nat) → ah_T → Prop} {A B : Nat → Nat} {h g u : ah_T} {S w m l o k v a b c n g0 x s t : Nat} {N : Nd} {st : Nat × Nat}
theorem mfF_r (hs : Sh h) : mfF h h := ⟨hs, rfl, fun _ _ => eqc_rfl, fun _ _ => rfl⟩
theorem mfF_t {h1 : ah_T} (p : mfF h g) (q : mfF g h1) : mfF h h1 := ⟨q.1, by rw [q.2.1, p.2.1], fun a n => eqc_trans (p.2.2.1 a n) (q.2.2.1 a n), fun j n => by rw [q.2.2.2 j n, p.2.2.2 j n]⟩
theorem mfF_md (p : mdF h g) : mfF h g := ⟨p.1, p.2.1, p.2.2.1, fun j n => p.2.2.2 j (by omega)⟩
theorem mfF_s {j : Nat} {y : Int32} (hj : j = 60 ∨ j = 61 ∨ j = 62) (p : mfF h g) : mfF h (ah_si g 82 j y) := ⟨sh_si p.1, by rw [ah_x_si, p.2.1], fun a n => eqc_si (p.2.2.1 a n) (by omega), fun i n => by rw [ah_i_sn (by omega)]; exact p.2.2.2 i n⟩
theorem mLw_ge (e : ∀ j, 60 ≤ j → B j = A j) (m : mLw A h) : mLw B h := by
  obtain ⟨m1, m2, m3, m4, m5, m6, m7, m8⟩ := m
  refine ⟨by rw [e 252 (by omega)]; exact m1, by rw [e 252 (by omega), e 251 (by omega)]; exact m2, by rw [e 251 (by omega)]; exact m3, by rw [e 242 (by omega)]; exact m4, by rw [e 244 (by omega)]; exact m5, by rw [e 242 (by omega)]; exact m6, by rw [e 244 (by omega)]; exact m7, fun t ht => ?_⟩
  rw [e 251 (by omega)] at ht
  obtain ⟨k1, k2, k3, k4⟩ := m8 t ht
  rw [e (253 + t) (by omega), show (fun k => B (260 + 400 * t + k)) = fun k => A (260 + 400 * t + k) from funext fun k => e _ (by omega), show (fun k => B (3060 + 400 * t + k)) = fun k => A (3060 + 400 * t + k) from funext fun k => e _ (by omega)]
  refine ⟨k1, k2, fun k hk => ?_, k4⟩
  rw [e (260 + 400 * t + k) (by omega), e (3060 + 400 * t + k) (by omega)]
  exact k3 k hk
theorem mKn_ge (e : ∀ j, 60 ≤ j → B j = A j) (m : mKn A h) : mKn B h := by
  refine ⟨m.1, fun y => ?_⟩
  obtain ⟨m1, m2, m3⟩ := m.2 y
  unfold memS memR memD at *
  rw [sh9_ge e, rch_ge e, drk_ge e]
  exact ⟨m1, m2, m3⟩
theorem mSw_ge (e : ∀ j, 60 ≤ j → B j = A j) (m : mSw A h) : mSw B h := by
  obtain ⟨m1, ⟨s1, s2⟩, m3, m4, ⟨t1, t2, t3, t4⟩, m6, ⟨l1, l2⟩, m8⟩ := m
  refine ⟨by rw [e 247 (by omega)]; exact m1, ⟨by rw [e 247 (by omega)]; exact s1, fun s hs => ?_⟩, fun j hj => ?_, by rw [e 243 (by omega)]; exact m4, ⟨by rw [e 242 (by omega)]; exact t1, by rw [e 243 (by omega)]; exact t2, by rw [e 243 (by omega)]; exact t3, by rw [e 244 (by omega)]; exact t4⟩, by rw [e 246 (by omega)]; exact m6, ⟨by rw [e 246 (by omega)]; exact l1, fun l hl => ?_⟩, fun j hj => ?_⟩
  · rw [e 247 (by omega)] at hs
    rw [e (90 + 3 * s) (by omega), e (91 + 3 * s) (by omega), e (92 + 3 * s) (by omega), e 246 (by omega)]
    exact s2 s hs
  · rw [e 247 (by omega)] at hj
    rw [e (90 + j) (by omega)]
    exact m3 j hj
  · rw [e 246 (by omega)] at hl
    rw [e (60 + 3 * l) (by omega), e (61 + 3 * l) (by omega), e (62 + 3 * l) (by omega)]
    exact l2 l hl
  · rw [e 246 (by omega)] at hj
    rw [e (60 + j) (by omega)]
    exact m8 j hj
theorem ct_0 {f : Nat → Nat → Bool} : ∀ M, (ct f n M = 0 ↔ ∀ m, m < M → ∀ l, l < n → f m l = false)
  | 0 => ⟨fun _ m hm => absurd hm (Nat.not_lt_zero _), fun _ => rfl⟩
  | M + 1 => by
    have ih := ct_0 (f := f) M
    have e : ct f n (M + 1) = ct f n M + cb (f M) n := rfl
    rw [e, Nat.add_eq_zero_iff, ih]
    have z : cb (f M) n = 0 ↔ ∀ l, l < n → f M l = false := by
      constructor
      · intro y l hl
        cases q : f M l
        · rfl
        · have := cb_pos.mpr ⟨l, hl, q⟩
          omega
      · intro y
        rcases Nat.eq_zero_or_pos (cb (f M) n) with q | q
        · exact q
        · obtain ⟨l, hl, q⟩ := cb_pos.mp q
          rw [y l hl] at q
          exact absurd q (by decide)
    rw [z]
    constructor
    · rintro ⟨y1, y2⟩ m hm l hl
      rcases Nat.lt_or_ge m M with q | q
      · exact y1 m q l hl
      · have : m = M := by omega
        subst this
        exact y2 l hl
    · intro y
      exact ⟨fun m hm => y m (by omega), y M (by omega)⟩
/-- between two choices of the model -/
def tsM (A : Nat → Nat) (h g : ah_T) : Prop := mfF h g ∧ ah_i g 82 62 = ah_i h 82 62 ∧ mQs A g
theorem m_triesShut {Q : Option Value → ah_T → Prop} {x1 : Int32} (hs : Sh h) (q : mQs A h) (wf : wfW A) (e1 : x1 = nI S) (k : mkO st h) (hst : st.1 < 2 ^ 30) (hq : ∀ g, tsM A h g → (ah_i g 82 49 = -1 ∨ (ah_i g 82 49 = ah_i h 82 49 ∧ S ≠ 0)) → mkO (foS (gS A) [S] st) g → Q none g) : Mt mX12_triesShut [.ref 82, .int x1] h Q := by
  subst e1
  have q' := q
  obtain ⟨q1, q2, q3, q4⟩ := q'
  have mt := q3
  have h20 := wf.1
  have wl := mt.2.2.2.1
  have wn := mt.2.2.2.2.2.2.1
  have l10 := wl.1
  refine T_X12_triesShut hs _ ?_
  refine m_shutNow hs mt.1.1 mt.1.2.1 (fun w hw => mt.2.1 w hw) (fun v3 hv => ⟨_, rfl, hs, ?_⟩)
  have now : (nI S &&& v3) = 0 ↔ ∀ i, i < A 245 → S.testBit i = true → A (3 * i + 2) ≠ 1 := by
    constructor
    · intro y i hi t z
      have e : bt (nI S &&& v3) i = bt 0 i := by rw [y]
      rw [b_and, nb (by omega), t, (hv i (by omega)).mpr ⟨hi, z⟩, b_0] at e
      exact absurd e (by decide)
    · intro y
      refine b_ext fun i hi => ?_
      rw [b_and, nb hi, b_0]
      cases t : S.testBit i with
      | false => rfl
      | true =>
        cases z : bt v3 i with
        | false => rfl
        | true =>
          obtain ⟨z1, z2⟩ := (hv i hi).mp z
          exact absurd z2 (y i z1 t)
  refine ⟨fun y => ?_, fun y => ?_⟩
  rotate_left
  · refine hq h ⟨mfF_r hs, rfl, q⟩ (.inr ⟨rfl, fun z => y ?_⟩) ?_
    · rw [z, show nI 0 = 0 from rfl, Int32.zero_and]
    · rw [foS_f (fun z => y (now.mpr z.2))]
      exact k
  have ny := now.mp y
  refine m_looks hs mt (fun h5 f5 d5 => ⟨rfl, f5.1, ?_⟩)
  have e84 : ∀ j, ah_i h5 84 j = ah_i h 84 j := (f5.2.2.1 84 (by decide) (by decide) (by decide) (by decide) (by decide) (by decide)).1
  have mw5 : mWy A h5 := by
    have := mt.1
    unfold mWy at this ⊢
    simp only [e84]
    exact this
  refine m_measures (s := fun v => A (3 * v + 2) = 1 ∧ v < A 245 ∨ S.testBit v = true) (.inr rfl) f5.1 mw5 _ (fun v hv20 => ?_) (fun h8 s8 x8 e8 d8 => ⟨rfl, s8, ?_⟩)
  · rw [isIn_bt _ (show v < 32 by omega), b_or, nb (show v < 32 by omega)]
    have q := hv v (by omega)
    cases t : S.testBit v with
    | true =>
      rw [Bool.true_or]
      exact ⟨fun z => absurd z (by decide), fun z => absurd (.inr rfl) z⟩
    | false =>
      rw [Bool.false_or]
      cases z : bt v3 v with
      | false => exact ⟨fun _ z2 => by
          rcases z2 with z2 | z2
          · rw [q.mpr ⟨z2.2, z2.1⟩] at z; exact absurd z (by decide)
          · exact absurd z2 (by decide), fun _ => rfl⟩
      | true => exact ⟨fun z2 => absurd z2 (by decide), fun z2 => absurd (.inl ⟨(q.mp z).2, (q.mp z).1⟩) z2⟩
  have ge : ∀ j, 60 ≤ j → aS A S j = A j := fun j hj => aS_ge hj
  have ge' : ∀ j, 60 ≤ j → A j = aS A S j := fun j hj => (aS_ge hj).symm
  have lk8 : lyF h h8 := lyF_t (lyF_l f5) ⟨s8, x8, fun a n1 n2 n3 => e8 a (by omega), fun j _ => (e8 82 (by decide)).1 j⟩
  have i8 : ∀ a, (a = 84 ∨ a = 95 ∨ a = 96 ∨ a = 97) → ∀ j, ah_i h8 a j = ah_i h a j := fun a ha j => by
    rw [(e8 a (by omega)).1, (f5.2.2.1 a (by omega) (by omega) (by omega) (by omega) (by omega) (by omega)).1]
  have i82 : ∀ j, j ≠ 41 → j ≠ 42 → j ≠ 43 → ah_i h8 82 j = ah_i h 82 j := fun j n1 n2 n3 => by
    rw [(e8 82 (by decide)).1, f5.2.2.2 j n1 n2 n3]
  have lw8 : mLw A h8 := mLw_fr (i8 84 (by omega)) q1
  have kn8 : mKn A h8 := mKn_e (fun a ha => i8 a (by omega)) (i82 29 (by decide) (by decide) (by decide)) (i82 1 (by decide) (by decide) (by decide)) q2
  have sw8 : mSw A h8 := mSw_fr (i8 84 (by omega)) q4
  have nd8 : mND (aS A S) (nd0 A) h8 := by
    obtain ⟨d1, d2, d3, d4, d5', d6, d7⟩ := d5
    refine ⟨d1, by rw [(e8 82 (by decide)).1]; exact d2, by rw [(e8 82 (by decide)).1]; exact d3, by rw [(e8 82 (by decide)).1]; exact d4, fun l hl => by rw [(e8 100 (by decide)).1, (e8 101 (by decide)).1]; exact d5' l hl, fun k hk => ⟨by rw [(e8 108 (by decide)).1]; exact (d6 k hk).1, fun m hm => by rw [(e8 107 (by decide)).1]; exact (d6 k hk).2 m hm⟩, fun x y hx hy => ?_⟩
    have := d8 x y hx hy
    have e : Ew A (fun v => A (3 * v + 2) = 1 ∧ v < A 245 ∨ S.testBit v = true) = Ew (aS A S) (shS (aS A S)) := by
      refine funext fun a => funext fun b => propext ?_
      rw [Ew_aS h20]
      exact Ew_sw (s' := fun v => A (3 * v + 2) = 1 ∨ S.testBit v = true) (fun v hv => ⟨fun y => y.imp (fun z => z.1) id, fun y => y.imp (fun z => ⟨z, hv⟩) id⟩) a b
    rw [e] at this
    exact this
  have ba : mBa (aS A S) (nd0 A) h8 := ⟨mLw_ge ge lw8, mKn_ge ge kn8, nd8, mSw_ge ge sw8, by rw [ge 246 (by omega)]; exact Nat.le_refl _⟩
  refine m_tries s8 ba (by rw [ge 246 (by omega)]; exact Nat.le_succ _) (fun g M f9 b9 hM _ _ o48 end9 e49 k50 => ⟨rfl, f9.1, ?_⟩)
  have out : ct (outM (aS A S) (nd0 A)) (A 246) M = 0 ↔ pcS A S := by
    rw [ct_0]
    constructor
    · intro z
      rcases end9 with y | ⟨_, y⟩
      · subst y; exact z
      · exact absurd ((ct_0 M).mpr z) (by have : 0 < ct (outM (aS A S) (nd0 A)) (A 246) M := y; omega)
    · intro z m hm
      exact z m (by omega)
  have c31 : ct (outM (aS A S) (nd0 A)) (A 246) M < 2 ^ 31 := by
    have := ct_le (outM (aS A S) (nd0 A)) (A 246) M
    have : M * A 246 ≤ 120 * 10 := Nat.mul_le_mul hM l10
    omega
  have o48' : ah_i g 82 48 = nI (ct (outM (aS A S) (nd0 A)) (A 246) M) := o48
  have ly9 : lyF h g := lyF_t lk8 f9
  have md9 : mdF h g := mdF_ly ly9
  have i60 : ∀ j, 50 ≤ j → ah_i g 82 j = ah_i h 82 j := fun j hj => by rw [k50 j hj, i82 j (by omega) (by omega) (by omega)]
  have qg : mQs A g := ⟨mLw_ge ge' b9.1, mKn_ge ge' b9.2.1, mTw_fr (ly9.2.2.1 84 (by decide) (by decide) (by decide)).1 mt, mSw_ge ge' b9.2.2.2.1⟩
  rw [o48']
  refine ⟨fun z => ?_, fun z => ?_⟩
  · have c0 : ct (outM (aS A S) (nd0 A)) (A 246) M = 0 := by
      rcases Nat.eq_zero_or_pos (ct (outM (aS A S) (nd0 A)) (A 246) M) with r | r
      · exact r
      · exact absurd z (nI_ge (a := 0) r c31)
    have good : gS A S := ⟨out.mp c0, ny⟩
    rw [i60 60 (by decide), k.1]
    have b0 : nO st.1 = -1 ↔ st.1 = 0 := by
      constructor
      · intro y
        have := congrArg (· + 1) y
        simp only [nO_1] at this
        exact (nI_eq (b := 0) (by omega) (by omega)).mp this
      · intro y; rw [y]; rfl
    rw [b0]
    -- the row behind a good one
    have bk : ∀ (u : ah_T), mfF g u → (∀ j, j ≠ 60 → j ≠ 61 → ah_i u 82 j = ah_i g 82 j) → (∀ a, a ≠ 82 → eqc g u a) → tsM A h u ∧ (ah_i u 82 49 = -1 ∨ (ah_i u 82 49 = ah_i h 82 49 ∧ S ≠ 0)) := by
      intro u fu e82 ea
      refine ⟨⟨mfF_t (mfF_md md9) fu, by rw [e82 62 (by decide) (by decide), i60 62 (by decide)], mLw_fr (ea 84 (by decide)).1 qg.1, mKn_e (fun a ha => (ea a (by omega)).1) (e82 29 (by decide) (by decide)) (e82 1 (by decide) (by decide)) qg.2.1, mTw_fr (ea 84 (by decide)).1 qg.2.2.1, mSw_fr (ea 84 (by decide)).1 qg.2.2.2⟩, .inl (by rw [e82 49 (by decide) (by decide)]; exact e49)⟩
    refine ⟨fun y => ?_, fun y => ?_⟩
    · rintro h16 rfl
      obtain ⟨b1, b2⟩ := bk _ (mfF_s (j := 61) (by omega) (mfF_r f9.1)) (fun j n1 n2 => ah_i_sn (by omega)) (fun a n => eqc_si eqc_rfl n)
      refine hq _ b1 b2 ?_
      rw [foS_t good, if_neg y]
      exact ⟨by rw [ah_i_sn (by omega), i60 60 (by decide), k.1]; rfl, by rw [ah_i_ss, i60 61 (by decide), k.2, nI_1]; rfl⟩
    · rintro h19 rfl h22 rfl
      obtain ⟨b1, b2⟩ := bk (ah_si (ah_si g 82 60 (nI S)) 82 61 (ah_i (ah_si g 82 60 (nI S)) 82 61 + 1)) (mfF_s (j := 61) (by omega) (mfF_s (j := 60) (by omega) (mfF_r f9.1))) (fun j n1 n2 => by rw [ah_i_sn (by omega), ah_i_sn (by omega)]) (fun a n => eqc_si (eqc_si eqc_rfl n) n)
      refine hq _ b1 b2 ?_
      rw [foS_t good, if_pos y]
      exact ⟨by rw [ah_i_sn (by omega), ah_i_ss]; exact (nO_s S).symm, by rw [ah_i_ss, ah_i_sn (by omega), i60 61 (by decide), k.2, nI_1]; rfl⟩
  · have c0 : ¬ ct (outM (aS A S) (nd0 A)) (A 246) M = 0 := fun r => z (by rw [r]; decide)
    have bad : ¬ gS A S := fun y => c0 (out.mpr y.1)
    refine hq g ⟨mfF_md md9, i60 62 (by decide), qg⟩ (.inl e49) ?_
    rw [foS_f bad]
    exact ⟨by rw [i60 60 (by decide)]; exact k.1, by rw [i60 61 (by decide)]; exact k.2⟩
end MS
