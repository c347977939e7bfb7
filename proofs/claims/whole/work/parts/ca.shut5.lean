/-! ===== shutters: all quarrels are gathered ===== -/
abbrev P7 : Nat → Prop := fun a => a = 79 ∨ a = 80 ∨ a = 81
/-- all quarrels, by sights that may be -/
def qrO (A : Nat → Nat) (h : ah_T) : Prop := ∀ a b i, a < 12 → b < 12 → i < 32 → (bt (ah_i h 79 (12 * a + b)) i = true ↔ poS A a b i ∧ cfl A (nd0 A) a b i)
section GR
variable {A : Nat → Nat} {h g u : ah_T} {m l o k v a b n g0 p : Nat} {N : Nd} {S : Ns} {fr fr' : Nat → Bool}
theorem rqQ (wT : 1 ≤ A 243) : ∀ m, rqO A N (qSt A N m) m
  | 0 => fun l _ y => absurd rfl y
  | m + 1 => by
    have rq := rqQ wT m
    intro l hl y
    have e2 : (qSt A N (m + 1)).ou l = (if l < N.n ∧ (false : Bool) = true then m + 1 else (if l < N.n ∧ wkB A (npr A (qSt A N m) m (A 247)) m l = true then 0 else (npr A (qSt A N m) m (A 247)).ou l)) := rfl
    rw [e2, if_neg (fun w => absurd w.2 (by decide))] at y ⊢
    by_cases w : wkB A (npr A (qSt A N m) m (A 247)) m l = true
    · rw [if_pos ⟨hl, w⟩] at y; exact absurd rfl y
    · rw [if_neg (fun u => w u.2)] at y ⊢
      have eou := npr_ou (A := A) (S := qSt A N m) (m := m) (A 247) l y
      obtain ⟨q1, q2⟩ := rq l hl (by rw [← eou]; exact y)
      rw [← eou] at q1 q2
      have nw2 : ¬ (npr A (qSt A N m) m (A 247)).ou l - 1 + A 243 = m := fun u => w (decide_eq_true ⟨y, u⟩)
      omega
theorem cor_y (f : cyF h g) (t : tmN g0 A g) (d : cND A (nd0 A) 0 g) (c : cor g0 A h) : cor g0 A g := by
  obtain ⟨l1, l2, l3, l4, l5⟩ := c
  exact ⟨cTw_y f l1, t, d, stO_fr (fun a ha => (f.2.2.1 a (by omega)).1) l4, cWs_fr (f.2.2.1 2 (by omega)) (f.2.2.1 3 (by omega)) l5⟩
theorem qs_bu (hl : l < A 246) (y : (qSt A (nd0 A) (m + 1)).bu l = true) : (qW A (nd0 A) m).bu l = true := by
  have e : (qSt A (nd0 A) (m + 1)).bu l = (((qW A (nd0 A) m).bu l && !false) && decide (0 < (qW A (nd0 A) m).oi l - drkA A l ((nd0 A).ki l) m)) := if_pos hl
  rw [e] at y
  obtain ⟨y1, _⟩ := Bool.and_eq_true_iff.mp y
  exact (Bool.and_eq_true_iff.mp y1).1
theorem kn_old (l0 : lwO (lawL A) h) (nb : ¬ bt (usd h 0) 5 = true) (cv : cvO (nd0 A) (qSt A (nd0 A) m) fr (qW A (nd0 A) m) fr') (old : ∀ m', m' < m → knM A u m') (hl : l < A 246) (ho : o < A 246) (bl : (qW A (nd0 A) m).bu l = true) (fl : fr' l = false) (fo : (qW A (nd0 A) m).bu o = true → fr' o = false) : kn1 A u m l o := by
  obtain ⟨_, c2⟩ := cv l hl fl
  obtain ⟨b1, i1⟩ := c2 bl
  cases m with
  | zero =>
    have e : (qSt A (nd0 A) 0).bu l = false := rfl
    rw [e] at b1
    exact absurd b1 (by decide)
  | succ m =>
    have b1' := qs_bu hl b1
    have i1' : (qW A (nd0 A) (m + 1)).si l = (qW A (nd0 A) m).si l := i1
    intro v hv p1 cf
    obtain ⟨ne, bo, s1⟩ := cf
    obtain ⟨_, d2⟩ := cv o ho (fo bo)
    obtain ⟨b2, i2⟩ := d2 bo
    have b2' := qs_bu ho b2
    have i2' : (qW A (nd0 A) (m + 1)).si o = (qW A (nd0 A) m).si o := i2
    have q1 : qla (qW A (nd0 A) (m + 1)) l o = qla (qW A (nd0 A) m) l o := by
      show (if _ < _ then 1 else 0) = (if _ < _ then 1 else 0)
      rw [i1', i2']
    rw [q1, shS_mi l0 nb _ _ _ _ _ (m + 1) m] at s1
    exact (old m (by omega) l hl b1').1 o ho v hv p1 ⟨ne, b2', s1⟩
theorem kn_old2 (l0 : lwO (lawL A) h) (cv : cvO (nd0 A) (qSt A (nd0 A) m) fr (qW A (nd0 A) m) fr') (old : ∀ m', m' < m → knM A u m') (hl : l < A 246) (hk : k < A 248) (bl : (qW A (nd0 A) m).bu l = true) (fl : fr' l = false) (pk : plA A k m = 0 ∨ (0 < m ∧ plA A k (m - 1) = plA A k m ∧ ¬ bt (usd h 0) 5 = true)) : kn2 A u m l k := by
  rcases pk with y | ⟨m0, pe, nb⟩
  · intro b v _ p0
    omega
  obtain ⟨_, c2⟩ := cv l hl fl
  obtain ⟨b1, i1⟩ := c2 bl
  cases m with
  | zero => omega
  | succ m =>
    have b1' := qs_bu hl b1
    intro b v hv p0 p1 cf
    obtain ⟨s0, s1⟩ := cf
    rw [Nat.add_sub_cancel] at pe
    rw [shS_mi l0 nb _ _ _ _ _ (m + 1) m] at s1
    exact (old m (by omega) l hl b1').2 k hk b v hv (by rw [pe]; exact p0) p1 ⟨by show plA A k m ≠ 0; rw [pe]; exact s0, s1⟩
theorem sdS_e (e : ∀ j, ah_i g 79 j = ah_i h 79 j) (s : sdS A h) : sdS A g := fun a b i ha hb hi y => s a b i ha hb hi (by rw [← e]; exact y)
theorem grW_e (e : ∀ j, ah_i g 79 j = ah_i h 79 j) : grW h g := fun j i _ y => by rw [e]; exact y
theorem grF_ln (f : lnF h g) : grF P7 h g := ⟨f.1, f.2.1, fun a n1 n2 => f.2.2.1 a (by omega) (by omega) (by omega) (by omega) (fun y => n2 (.inl y)), f.2.2.2.1⟩
theorem c_gatherQ {Q : Option Value → ah_T → Prop} (hs : Sh h) (c : cor g0 A h) (hq : ∀ g, grF P7 h g → cor g0 A g → qrO A g → Q none g) : Mt mX4_gatherQuarrels [.ref 74] h Q := by
  have n79 : ∀ {u : ah_T}, Sh u → ah_n u 79 = 144 := fun hs => sh_n hs 79 144 (by decide) (by decide) rfl
  have w10 : A 246 ≤ 10 := c.2.2.1.1.1
  have w3 : A 248 ≤ 3 := c.2.2.1.1.2.2.1
  have wT := c.1.2.2.2.2.2.1
  refine T_X4_gatherQuarrels hs ?_
  refine c_fillA hs 79 0 (sh_k hs 79 14 (by decide) rfl) (by rw [n79 hs]; decide) ⟨rfl, sh_sa hs, ?_⟩
  obtain ⟨z, ez⟩ : ∃ z, z = ab_fl h 79 0 (ah_n h 79) 0 := ⟨_, rfl⟩
  rw [← ez]
  have sz : Sh z := by rw [ez]; exact sh_sa hs
  have ee : ∀ a, a ≠ 79 → eqc h z a := fun a n => by rw [ez]; exact eqc_fl eqc_rfl n
  have xz : ah_x z = ah_x h := by rw [ez]; rfl
  have fz : grF P7 h z := ⟨sz, xz, fun a _ n => ee a (fun y => n (.inl y)), wB_of (ee 27 (by decide)).1⟩
  have i79 : ∀ j, j < 144 → ah_i z 79 j = 0 := fun j hj => by
    rw [ez, ah_i_fl, n79 hs, if_pos ⟨rfl, by omega, hj⟩]
  have cz : cor g0 A z := cor_g (fun a ha => ee a (by omega)) (.inr trivial) sz xz c
  refine c_restart sz cz.1 cz.2.2.1 (fun w ce dw nw kw => ⟨rfl, ce.1, ?_⟩)
  have cw : cor g0 A w := cor_y (cyF_e ce) (tmO_n ce cz.2.1) dw cz
  -- minute by minute
  have l17 : ∀ (q m : Nat) (u : ah_T) (fr : Nat → Bool), m + q = 120 → grF P7 h u → cor g0 A u → cNS (nd0 A) (qSt A (nd0 A) m) fr u → sdS A u → (∀ m', m' < m → knM A u m') → Wp mX4_gatherQuarrels Q 0 0 17 [some (.ref 74), some (.int (nI m)), none, none, none, none] [] u := by
    intro q
    induction q with
    | zero =>
      intro m u fr hm fu cu nu su ku
      have e9 : m = 120 := by omega
      subst e9
      refine T_X4_gatherQuarrels_17 fu.1 _ ?_
      (first | refine ⟨fun _ => ?_, fun n_ => absurd (show (120 : Int32) ≤ nI 120 by decide) n_⟩ | refine ⟨fun n_ => absurd (show (120 : Int32) ≤ nI 120 by decide) n_, fun _ => ?_⟩ | refine ⟨fun y_ => absurd y_ (show (120 : Int32) ≤ nI 120 by decide), fun _ => ?_⟩ | refine ⟨fun _ => ?_, fun y_ => absurd y_ (show (120 : Int32) ≤ nI 120 by decide)⟩)
      refine hq u fu cu (fun a b i ha hb hi => ⟨su a b i ha hb hi, fun y => ?_⟩)
      obtain ⟨y1, m, l, hm, hl, bl, rfl, y2⟩ := y
      have i13 := poS_12 (cu.2.2.2.1.2.2.2.1 _ b ha hb) y1
      rcases y2 with ⟨o, ho, rfl, cf⟩ | ⟨k, hk, p0, cf⟩
      · exact (ku m hm l hl bl).1 o ho i i13 y1 cf
      · exact (ku m hm l hl bl).2 k hk b i i13 p0 y1 cf
    | succ q ih =>
      intro m u fr hm fu cu nu su ku
      have hm2 : m < 120 := by omega
      refine T_X4_gatherQuarrels_17 fu.1 _ ?_
      (first | refine ⟨fun _ => ?_, fun n_ => absurd (show ¬ (120 : Int32) ≤ nI m from nI_ge (b := 120) (by omega) (by omega)) n_⟩ | refine ⟨fun n_ => absurd (show ¬ (120 : Int32) ≤ nI m from nI_ge (b := 120) (by omega) (by omega)) n_, fun _ => ?_⟩ | refine ⟨fun y_ => absurd y_ (show ¬ (120 : Int32) ≤ nI m from nI_ge (b := 120) (by omega) (by omega)), fun _ => ?_⟩ | refine ⟨fun _ => ?_, fun y_ => absurd y_ (show ¬ (120 : Int32) ≤ nI m from nI_ge (b := 120) (by omega) (by omega))⟩)
      refine c_prepare fu.1 cu.1 cu.2.2.1 nu rfl hm2 (rqQ wT m) (fun g1 fr' ce d1 n1 cv ko => ⟨rfl, ce.1, ?_⟩)
      have c1 : cor g0 A g1 := cor_y (cyF_e ce) (tmO_n ce cu.2.1) d1 cu
      have e79 : ∀ j, ah_i g1 79 j = ah_i u 79 j := ko 79 (by decide) (by decide) (by decide)
      have s1 := sdS_e e79 su
      have k1 : ∀ m', m' < m → knM A g1 m' := fun m' hm' => knM_g (grW_e e79) (ku m' hm')
      have f1 : grF P7 h g1 := grF_t fu (grF_e ce)
      have l0 : lwO (lawL A) g1 := c1.2.1.1.1
      refine c_stirred ce.1 l0 (fun st h1 h2 => ⟨_, rfl, ce.1, ?_⟩)
      refine c_moved2 ce.1 l0 d1 rfl hm2 (fun mv hmv => ⟨_, rfl, ce.1, ?_⟩)
      have bu5 := n1.2.2.1
      have fr6 := n1.2.2.2.2.1
      have hA : ∀ o, o < A 246 → bt st o = true → (qW A (nd0 A) m).bu o = true := by
        intro o ho y
        by_cases z : bt (usd g1 0) 5 = true
        · rw [h1 z] at y
          exact ((bu5 o (by omega)).mp y).2
        · rw [h2 z, b_and, Bool.and_eq_true] at y
          exact ((bu5 o (by omega)).mp y.2).2
      have hB : ∀ o, o < A 246 → (qW A (nd0 A) m).bu o = true → bt st o = false → ¬ bt (usd g1 0) 5 = true ∧ fr' o = false := by
        intro o ho bo y
        have b5 := (bu5 o (by omega)).mpr ⟨ho, bo⟩
        by_cases z : bt (usd g1 0) 5 = true
        · rw [h1 z, b5] at y
          exact absurd y (by decide)
        · refine ⟨z, ?_⟩
          rw [h2 z, b_and, b5, Bool.and_true] at y
          cases e : fr' o
          · rfl
          · have := (fr6 o (by omega)).mpr ⟨ho, e⟩
            rw [y] at this
            exact absurd this (by decide)
      -- the end of a minute
      have fin : ∀ (v : ah_T), lnF g1 v → cor g0 A v → sdS A v → (∀ l, l < A 246 → (qW A (nd0 A) m).bu l = true → (bt st l = true → (∀ o, o < A 246 → kn1 A v m l o) ∧ ∀ k, k < A 248 → kn2 A v m l k) ∧ (bt st l = false → (∀ o, o < A 246 → bt st o = true → kn1 A v m l o) ∧ ∀ k, k < A 248 → bt mv k = true → kn2 A v m l k)) → Mt mX3_finish [.ref 43, .int (nI m), .int 0] v (ab_qi fun v20 h18 => Sh h18 ∧ Wp mX4_gatherQuarrels Q 0 0 17 [some (.ref 74), some (.int (nI (m + 1))), none, none, none, none] [] h18) := by
        intro v fv cv' sv kv
        have kold : ∀ m', m' < m → knM A v m' := fun m' hm' => knM_g fv.2.2.2.2 (k1 m' hm')
        have kall : knM A v m := by
          intro l hl bl
          cases e : bt st l with
          | true => exact (kv l hl bl).1 e
          | false =>
            obtain ⟨kA, kB⟩ := (kv l hl bl).2 e
            obtain ⟨nb, fl⟩ := hB l hl bl e
            refine ⟨fun o ho => ?_, fun k hk => ?_⟩
            · cases e2 : bt st o with
              | true => exact kA o ho e2
              | false => exact kn_old l0 nb cv kold hl ho bl fl (fun bo => (hB o ho bo e2).2)
            · rcases hmv k hk with y | y
              · exact kB k hk y
              · exact kn_old2 l0 cv kold hl hk bl fl y
        refine c_finish fv.1 cv'.2.1 cv'.2.2.1 (cNS_ln fv n1) (gg := fun _ => false) rfl hm2 (fun i _ => ?_) (fun l _ y => absurd y (by decide)) (fun g2 r f2 k2 t2 n2 _ _ => ⟨_, rfl, f2.1, ?_⟩)
        · rw [b_0]
          exact ⟨fun y => absurd y (by decide), fun y => absurd y.2 (by decide)⟩
        · have e2 : ∀ j, ah_i g2 79 j = ah_i v 79 j := (f2.2.2.1 79 (by omega)).1
          refine ih (m + 1) g2 (fun _ => false) (by omega) (grF_t f1 (grF_t (grF_ln fv) (grF_y f2))) (cor_y f2 t2 (cyK_d k2 cv'.2.2.1) cv') n2 (sdS_e e2 sv) (fun m' hm' => ?_)
          by_cases z : m' = m
          · rw [z]; exact knM_g (grW_e e2) kall
          · exact knM_g (grW_e e2) (kold m' (by omega))
      have l51 : ∀ (q x : Nat) (v : ah_T), x + q = A 246 → lnF g1 v → cor g0 A v → sdS A v → (∀ l, l < x → (qW A (nd0 A) m).bu l = true → (bt st l = true → (∀ o, o < A 246 → kn1 A v m l o) ∧ ∀ k, k < A 248 → kn2 A v m l k) ∧ (bt st l = false → (∀ o, o < A 246 → bt st o = true → kn1 A v m l o) ∧ ∀ k, k < A 248 → bt mv k = true → kn2 A v m l k)) → Wp mX4_gatherQuarrels Q 0 0 51 [some (.ref 74), some (.int (nI m)), some (.int st), some (.int mv), some (.int (nI x)), none] [] v := by
        intro q
        induction q with
        | zero =>
          intro x v hx fv cv' sv kv
          have e9 : x = A 246 := by omega
          refine T_X4_gatherQuarrels_51 fv.1 _ _ _ _ ?_
          rw [show ah_i v 43 0 = nI (A 246) from cv'.2.2.1.2.2.1]
          (first | refine ⟨fun _ => ?_, fun n_ => absurd (show nI (A 246) ≤ nI x from nI_le (by omega) (by omega)) n_⟩ | refine ⟨fun n_ => absurd (show nI (A 246) ≤ nI x from nI_le (by omega) (by omega)) n_, fun _ => ?_⟩ | refine ⟨fun y_ => absurd y_ (show nI (A 246) ≤ nI x from nI_le (by omega) (by omega)), fun _ => ?_⟩ | refine ⟨fun _ => ?_, fun y_ => absurd y_ (show nI (A 246) ≤ nI x from nI_le (by omega) (by omega))⟩)
          rw [nI_1]
          exact fin v fv cv' sv (fun l hl => kv l (by omega))
        | succ q ih2 =>
          intro x v hx fv cv' sv kv
          have hx2 : x < A 246 := by omega
          refine T_X4_gatherQuarrels_51 fv.1 _ _ _ _ ?_
          rw [show ah_i v 43 0 = nI (A 246) from cv'.2.2.1.2.2.1]
          (first | refine ⟨fun _ => ?_, fun n_ => absurd (show ¬ nI (A 246) ≤ nI x from nI_ge (by omega) (by omega)) n_⟩ | refine ⟨fun n_ => absurd (show ¬ nI (A 246) ≤ nI x from nI_ge (by omega) (by omega)) n_, fun _ => ?_⟩ | refine ⟨fun y_ => absurd y_ (show ¬ nI (A 246) ≤ nI x from nI_ge (by omega) (by omega)), fun _ => ?_⟩ | refine ⟨fun _ => ?_, fun y_ => absurd y_ (show ¬ nI (A 246) ≤ nI x from nI_ge (by omega) (by omega))⟩)
          rw [nI_1 m, nI_1 x, b_bit _ _ (show x < 32 by omega), b_bit _ _ (show x < 32 by omega)]
          have e5 : ah_i v 43 5 = ah_i g1 43 5 := lnF_i fv (by omega) 5
          rw [e5]
          refine ⟨fun z => ?_, fun z => ⟨fun y => ?_, fun y => ?_⟩⟩
          · have st0 : ∀ i, i < 32 → bt st i = false ∧ bt mv i = false := fun i _ => by
              have e : bt (st ||| mv) i = bt 0 i := by rw [z]
              rw [b_or, b_0] at e
              cases e1 : bt st i
              · cases e2 : bt mv i
                · exact ⟨rfl, rfl⟩
                · rw [e2, Bool.or_true] at e; exact absurd e (by decide)
              · rw [e1, Bool.true_or] at e; exact absurd e (by decide)
            refine fin v fv cv' sv (fun l hl bl => ⟨fun w => ?_, fun _ => ⟨fun o ho w => ?_, fun k hk w => ?_⟩⟩)
            · rw [(st0 l (by omega)).1] at w; exact absurd w (by decide)
            · rw [(st0 o (by omega)).1] at w; exact absurd w (by decide)
            · rw [(st0 k (by omega)).2] at w; exact absurd w (by decide)
          · refine ih2 (x + 1) v (by omega) fv cv' sv (fun l hl bl => ?_)
            by_cases z1 : l = x
            · subst z1
              have := (bu5 l (by omega)).mpr ⟨hx2, bl⟩
              rw [y] at this
              exact absurd this (by decide)
            · exact kv l (by omega) bl
          have bx : (qW A (nd0 A) m).bu x = true := by
            cases e : bt (ah_i g1 43 5) x
            · exact absurd e y
            · exact ((bu5 x (by omega)).mp e).2
          -- behind what is learnt of this one
          have nx : ∀ g4, lnF v g4 → cor g0 A g4 → sdS A g4 → ((bt st x = true → (∀ o, o < A 246 → kn1 A g4 m x o) ∧ ∀ k, k < A 248 → kn2 A g4 m x k) ∧ (bt st x = false → (∀ o, o < A 246 → bt st o = true → kn1 A g4 m x o) ∧ ∀ k, k < A 248 → bt mv k = true → kn2 A g4 m x k)) → Wp mX4_gatherQuarrels Q 0 0 51 [some (.ref 74), some (.int (nI m)), some (.int st), some (.int mv), some (.int (nI (x + 1))), none] [] g4 := by
            intro g4 f4 c4 s4 k4
            refine ih2 (x + 1) g4 (by omega) (lnF_t fv f4) c4 s4 (fun l hl bl => ?_)
            by_cases z1 : l = x
            · subst z1; exact k4
            · have kk := kv l (by omega) bl
              have gw : grW v g4 := f4.2.2.2.2
              exact ⟨fun w => ⟨fun o ho => kn1_g gw ((kk.1 w).1 o ho), fun k hk => kn2_g gw ((kk.1 w).2 k hk)⟩, fun w => ⟨fun o ho w2 => kn1_g gw ((kk.2 w).1 o ho w2), fun k hk w2 => kn2_g gw ((kk.2 w).2 k hk w2)⟩⟩
          refine ⟨fun w => ?_, fun w => ?_⟩
          · refine c_learnOfLamps fv.1 cv' (cNS_ln fv n1) sv rfl rfl hx2 bx hm2 hA (fun g3 f3 c3 s3 k3 => ⟨rfl, f3.1, ?_⟩)
            refine c_learnOfLanterns f3.1 c3 s3 rfl rfl hx2 bx hm2 (fun g4 f4 c4 s4 k4 => ⟨rfl, f4.1, ?_⟩)
            refine nx g4 (lnF_t f3 f4) c4 s4 ⟨fun w2 => by rw [w] at w2; exact absurd w2 (by decide), fun _ => ⟨fun o ho w2 => kn1_g f4.2.2.2.2 (k3 o ho w2), k4⟩⟩
          · have ws : bt st x = true := by
              cases e : bt st x
              · exact absurd e w
              · rfl
            refine c_learnOfLamps fv.1 cv' (cNS_ln fv n1) sv rfl rfl hx2 bx hm2 (fun o ho w2 => ((bu5 o (by omega)).mp w2).2) (fun g3 f3 c3 s3 k3 => ⟨rfl, f3.1, ?_⟩)
            refine c_learnOfLanterns f3.1 c3 s3 rfl rfl hx2 bx hm2 (fun g4 f4 c4 s4 k4 => ⟨rfl, f4.1, ?_⟩)
            refine nx g4 (lnF_t f3 f4) c4 s4 ⟨fun _ => ⟨fun o ho => ?_, fun k hk => k4 k hk (b_m1 k (by omega))⟩, fun w2 => by rw [ws] at w2; exact absurd w2 (by decide)⟩
            intro vv hv p1 p2
            exact kn1_g f4.2.2.2.2 (k3 o ho ((bu5 o (by omega)).mpr ⟨ho, p2.2.1⟩)) vv hv p1 p2
      exact l51 (A 246) 0 g1 (by omega) (lnF_r ce.1) c1 s1 (fun l hl => absurd hl (Nat.not_lt_zero _))
  have ew : ∀ j, ah_i w 79 j = ah_i z 79 j := kw 79 (by decide) (by decide) (by decide)
  refine l17 120 0 w _ rfl (grF_t fz (grF_e ce)) cw nw (fun a b i ha hb hi y => ?_) (fun m' hm' => absurd hm' (Nat.not_lt_zero _))
  rw [ew, i79 _ (by omega), b_0] at y
  exact absurd y (by decide)
end GR
