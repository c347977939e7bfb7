/-! ===== the class relates its night ===== -/
def chR (A : Nat → Nat) (h : ah_T) : Prop := ∀ m, m < 120 → (∀ i, i < 32 → (bt (ah_i h 55 m) i = true ↔ i < A 246 ∧ litM A (nd0 A) m i = true)) ∧ (∀ i, i < 32 → (bt (ah_i h 56 m) i = true ↔ i < A 246 ∧ outM A (nd0 A) m i = true)) ∧ ∀ l, l < A 246 → ah_i h 57 (10 * m + l) = nI (oilM A (nd0 A) m l)
def chL (A : Nat → Nat) (h : ah_T) : Prop := ∀ m, m < 120 → ah_i h 59 m = -1 ∨ brV A (nd0 A) (litM A (nd0 A) m) m (ah_i h 59 m)
def chO (A : Nat → Nat) (h : ah_T) : Prop := ah_i h 54 9 = 0 ∨ (ah_i h 54 9 = 1 ∧ chR A h ∧ chL A h)
section RL
variable {A : Nat → Nat} {N : Nd} {h g h1 : ah_T} {g0 sp : Nat}
theorem chR_fr (e : ∀ a, (a = 55 ∨ a = 56 ∨ a = 57) → ∀ j, ah_i g a j = ah_i h a j) (r : chR A h) : chR A g := fun m hm => by
  rw [e 55 (by omega), e 56 (by omega)]
  exact ⟨(r m hm).1, (r m hm).2.1, fun l hl => by rw [e 57 (by omega)]; exact (r m hm).2.2 l hl⟩
theorem chL_fr (e : ∀ j, ah_i g 59 j = ah_i h 59 j) (r : chL A h) : chL A g := fun m hm => by rw [e]; exact r m hm
/-- a night is begun: nothing waits, who burns is fresh -/
theorem rq0 : rqO A N (nst0 A N) 0 := fun l _ y => absurd rfl y
theorem qi0 : qiO A N (nst0 A N) 0 (nst0 A N).bu := .inl ⟨rfl, fun _ _ y => y⟩
theorem nSt_s (m : Nat) : nSt A N (m + 1) = miM A N (nSt A N m) m := rfl
theorem rqM (wT : 1 ≤ A 243) : ∀ m, rqO A N (nSt A N m) m
  | 0 => rq0
  | m + 1 => rq_next wT (rqM wT m)
/-- a night between two minutes, as the class runs it -/
def cRn (g0 : Nat) (A : Nat → Nat) (N : Nd) (sp m : Nat) (h : ah_T) : Prop := ∃ fr, cAl g0 A N sp (nSt A N m) fr h ∧ qiO A N (nSt A N m) m fr
theorem c_run1 {Q : Option Value → ah_T → Prop} (hs : Sh h) {m : Nat} (rn : cRn g0 A N sp m h) {x1 : Int32} (e1 : x1 = nI m) (hm : m < 120)
    (hq : ∀ h' r, cyF h h' → cyK h h' → cRn g0 A N sp (m + 1) h' → (∀ i, i < 32 → (bt r i = true ↔ i < N.n ∧ litM A N m i = true)) → (∀ i, i < 32 → (bt (ah_i h' 43 7) i = true ↔ i < N.n ∧ outM A N m i = true)) → (∀ l, l < N.n → ah_i h' 46 l = nI (oilM A N m l)) → Q (some (.int r)) h') : Mt mX3_step [.ref 43, .int x1] h Q := by
  obtain ⟨fr, al, qi⟩ := rn
  have wT := al.1.2.2.2.2.2.1
  refine c_step hs al e1 hm (rqM wT m) qi (fun h' r f k al' hr h7 => hq h' r f k ⟨fun _ => false, al', qi_next m _⟩ hr h7 (fun l hl => ?_))
  exact (al'.2.2.2.2.2.2.2.2 l hl).1
theorem c_begin {Q : Option Value → ah_T → Prop} (hs : Sh h) (t : cTw A h) (tm : tmN g0 A h) (d : cND A N sp h) (hq : ∀ h', ceN h h' → cRn g0 A N sp 0 h' → (∀ a, a ≠ 43 → a ≠ 46 → a ≠ 47 → ∀ j, ah_i h' a j = ah_i h a j) → Q none h') : Mt mX3_restart [.ref 43] h Q :=
  c_restart hs t d (fun h' c d' n ko => hq h' c ⟨_, ⟨cTw_n c t, tmO_n c tm, d', n⟩, qi0⟩ ko)
theorem cRn_e (c : cRn g0 A N sp 0 h) : cTw A h ∧ tmN g0 A h ∧ cND A N sp h := by
  obtain ⟨fr, al, _⟩ := c
  exact ⟨al.1, al.2.1, al.2.2.1⟩
theorem cRn_c {m : Nat} (c : cRn g0 A N sp m h) : cTw A h ∧ tmN g0 A h ∧ cND A N sp h := by
  obtain ⟨fr, al, _⟩ := c
  exact ⟨al.1, al.2.1, al.2.2.1⟩
/-- cells off the night change -/
theorem cRn_x {m : Nat} (e : ∀ a, (a < 54 ∨ 62 ≤ a) → eqc h g a) (hs : Sh g) (hx : ah_x g = ah_x h) (c : cRn g0 A N sp m h) : cRn g0 A N sp m g := by
  obtain ⟨fr, ⟨c1, c2, c3, c4⟩, qi⟩ := c
  have ei : ∀ a, (a < 54 ∨ 62 ≤ a) → ∀ j, ah_i g a j = ah_i h a j := fun a n => (e a n).1
  refine ⟨fr, ⟨cTw_fr (fun a ha => ei a (by omega)) c1, ?_, cND_fr (fun a ha => ei a (by omega)) (fun j _ => ei 43 (by omega) j) c3, cNS_fr (fun a ha => ei a (by omega)) (fun j _ => ei 43 (by omega) j) c4⟩, qi⟩
  obtain ⟨t1, t2, t3, t4, t5, t6⟩ := c2
  have us : ∀ what, usd g what = usd h what := by
    intro what
    unfold usd
    rw [(e 38 (by omega)).2.2.1]
    cases z : ah_r h 38 3 with
    | none => rfl
    | some x =>
      have := lw_123 t1.1 z
      exact ei (x + 3) (by omega) what
  refine ⟨tp_fr (e 38 (by omega)) (e 39 (by omega)).2.1 (fun a ha => e a (by omega)) (Nat.le_of_eq hx.symm) t1, t2, wB_of (ei 27 (by omega)) t3, ?_, sgO_fr (ei 34 (by omega)) t5, lmO_fr (ei 4 (by omega)) (ei 5 (by omega)) t6⟩
  unfold hfO at t4 ⊢
  simp only [us, ei 40 (by omega), ei 41 (by omega), ei 42 (by omega)]
  exact t4
theorem c_relate {Q : Option Value → ah_T → Prop} (hs : Sh h) (c : cor g0 A h) (o : chO A h) (hq : ∀ h', chF h h' → cor g0 A h' → ah_i h' 54 9 = 1 → chR A h' → chL A h' → Q none h') : Mt mX0_relate [.ref 54] h Q := by
  have z0 : Int32.toNatClampNeg 0 = 0 := rfl
  have z10 : Int32.toNatClampNeg 10 = 10 := rfl
  have n59 : ∀ {g : ah_T}, Sh g → ah_n g 59 = 120 := fun hs => sh_n hs 59 120 (by decide) (by decide) rfl
  have w10 : A 246 ≤ 10 := c.2.2.1.1.1
  refine T_X0_relate hs ?_
  rcases o with o | ⟨o, r, l⟩
  · (first | refine ⟨fun _ => ?_, fun n_ => absurd (o) n_⟩ | refine ⟨fun n_ => absurd (o) n_, fun _ => ?_⟩ | refine ⟨fun y_ => absurd y_ (o), fun _ => ?_⟩ | refine ⟨fun _ => ?_, fun y_ => absurd y_ (o)⟩)
    intro h2 q2
    have f2 : chF h h2 := by rw [q2]; exact chF_s (by omega) (chF_r hs)
    have e2 : ∀ a, a ≠ 54 → eqc h h2 a := fun a n => by rw [q2]; exact eqc_si eqc_rfl n
    have e54 : ah_i h2 54 9 = 1 := by rw [q2, ah_i_ss]
    refine c_fillA f2.1 59 (-1) (sh_k f2.1 59 14 (by decide) rfl) (by rw [n59 f2.1]; decide) ⟨rfl, sh_fl f2.1, ?_⟩
    rw [n59 f2.1]
    obtain ⟨g5, q5⟩ : ∃ g5, g5 = ab_fl h2 59 0 120 (-1) := ⟨_, rfl⟩
    rw [← q5]
    have s5 : Sh g5 := by rw [q5]; exact sh_fl f2.1
    have e5 : ∀ a, a ≠ 54 → a ≠ 59 → eqc h g5 a := fun a n1 n2 => by rw [q5]; exact eqc_fl (e2 a n1) n2
    have x5 : ah_x g5 = ah_x h := by rw [q5, x_fl, f2.2.1]
    have i59 : ∀ m, m < 120 → ah_i g5 59 m = -1 := fun m hm => by rw [q5, ah_i_fl, if_pos (by omega)]
    have i54 : ah_i g5 54 9 = 1 := by rw [q5, ah_i_fl, if_neg (by omega)]; exact e54
    have j54 : ∀ j, j ≠ 9 → ah_i g5 54 j = ah_i h 54 j := fun j n => by rw [q5, ah_i_fl, if_neg (by omega), f2.2.2.2.1 j n]
    have c5 : cor g0 A g5 := cor_e (fun a ha => e5 a (by omega) (by omega)) s5 x5 (stO_fr (fun a ha => (e5 a (by omega) (by omega)).1) c.2.2.2.1) c
    refine c_begin s5 c5.1 c5.2.1 c5.2.2.1 (fun g8 c8 rn ko => ⟨rfl, c8.1, ?_⟩)
    -- the minutes
    have lp : ∀ (q m : Nat) (u : ah_T), m + q = 120 → Sh u → ah_x u = ah_x h → (∀ a, (a < 26 ∨ (28 < a ∧ a < 39) ∨ a = 58 ∨ 59 < a) → eqc h u a) → (∀ j, j ≠ 9 → ah_i u 54 j = ah_i h 54 j) → (wB h → wB u) → ah_i u 54 9 = 1 → (∀ m, m < 120 → ah_i u 59 m = -1) → cRn g0 A (nd0 A) 0 m u → (∀ m', m' < m → (∀ i, i < 32 → (bt (ah_i u 55 m') i = true ↔ i < A 246 ∧ litM A (nd0 A) m' i = true)) ∧ (∀ i, i < 32 → (bt (ah_i u 56 m') i = true ↔ i < A 246 ∧ outM A (nd0 A) m' i = true)) ∧ ∀ l, l < A 246 → ah_i u 57 (10 * m' + l) = nI (oilM A (nd0 A) m' l)) → Wp mX0_relate Q 0 0 30 [some (.ref 54), some (.int (nI m))] [] u := by
      intro q
      induction q with
      | zero =>
        intro m u hm su xu eu ju wu i9 il rn rows
        have e9 : m = 120 := by omega
        subst e9
        refine T_X0_relate_30 su _ ?_
        (first | refine ⟨fun _ => ?_, fun n_ => absurd (show 120 ≤ nI 120 from nI_le (a := 120) (by omega) (by omega)) n_⟩ | refine ⟨fun n_ => absurd (show 120 ≤ nI 120 from nI_le (a := 120) (by omega) (by omega)) n_, fun _ => ?_⟩ | refine ⟨fun y_ => absurd y_ (show 120 ≤ nI 120 from nI_le (a := 120) (by omega) (by omega)), fun _ => ?_⟩ | refine ⟨fun _ => ?_, fun y_ => absurd y_ (show 120 ≤ nI 120 from nI_le (a := 120) (by omega) (by omega))⟩)
        obtain ⟨r1, r2, r3⟩ := cRn_c rn
        exact hq u ⟨su, xu, fun a ha => eu a (by omega), ju, wu⟩ ⟨r1, r2, r3, stO_fr (fun a ha => (eu a (by omega)).1) c.2.2.2.1, cWs_fr (eu 2 (by omega)) (eu 3 (by omega)) c.2.2.2.2⟩ i9 rows (fun m hm => .inl (il m hm))
      | succ q ih =>
        intro m u hm su xu eu ju wu i9 il rn rows
        refine T_X0_relate_30 su _ ?_
        (first | refine ⟨fun _ => ?_, fun n_ => absurd (show ¬ 120 ≤ nI m from nI_ge (b := 120) (by omega) (by omega)) n_⟩ | refine ⟨fun n_ => absurd (show ¬ 120 ≤ nI m from nI_ge (b := 120) (by omega) (by omega)) n_, fun _ => ?_⟩ | refine ⟨fun y_ => absurd y_ (show ¬ 120 ≤ nI m from nI_ge (b := 120) (by omega) (by omega)), fun _ => ?_⟩ | refine ⟨fun _ => ?_, fun y_ => absurd y_ (show ¬ 120 ≤ nI m from nI_ge (b := 120) (by omega) (by omega))⟩)
        refine c_run1 su rn rfl (by omega) (fun u1 r f1 k1 rn1 hr h7 hoil => ⟨_, rfl, f1.1, ?_⟩)
        have c10 : nI m * 10 = nI (10 * m) := by rw [n_10, nI_mul]; congr 1; omega
        rw [nI_1, c10, z0, z10, nI_clamp (show m < 2 ^ 31 by omega), nI_clamp (show 10 * m < 2 ^ 31 by omega), sh_n f1.1 55 120 (by decide) (by decide) rfl]
        refine ⟨(vp_nI (by omega)).mpr (by omega), ?_⟩
        intro u2 q2'
        have s2' : Sh u2 := by rw [q2']; exact sh_si f1.1
        have a7 : ah_i u2 43 7 = ah_i u1 43 7 := by rw [q2', ah_i_sn (by omega)]
        rw [a7, sh_n s2' 56 120 (by decide) (by decide) rfl]
        refine ⟨(vp_nI (by omega)).mpr (by omega), ?_⟩
        intro u3 q3'
        have s3' : Sh u3 := by rw [q3']; exact sh_si s2'
        rw [sh_n s3' 46 10 (by decide) (by decide) rfl, sh_n s3' 57 1200 (by decide) (by decide) rfl]
        refine ⟨nI_pos (by omega), by omega, by omega, ?_⟩
        intro u4 q4'
        have ek : ∀ a, a ≠ 55 → a ≠ 56 → a ≠ 57 → eqc u1 u4 a := fun a n1 n2 n3 => by rw [q4', q3', q2']; exact eqc_sa (eqc_si (eqc_si eqc_rfl n1) n2) n3
        have s4' : Sh u4 := by rw [q4']; exact sh_sa s3'
        have x4' : ah_x u4 = ah_x u1 := by rw [q4', ah_x_sa, q3', ah_x_si, q2', ah_x_si]
        refine ih (m + 1) u4 (by omega) s4' (by rw [x4', f1.2.1, xu]) (fun a ha => ?_) (fun j n => ?_) (fun w => wB_of (ek 27 (by decide) (by decide) (by decide)).1 (f1.2.2.2 (wu w))) ?_ (fun m' hm' => ?_) (cRn_x (fun a ha => ek a (by omega) (by omega) (by omega)) s4' x4' rn1) (fun m' hm' => ?_)
        · exact eqc_trans (eu a ha) (eqc_trans (f1.2.2.1 a (by omega)) (ek a (by omega) (by omega) (by omega)))
        · rw [(ek 54 (by decide) (by decide) (by decide)).1, (f1.2.2.1 54 (by omega)).1, ju j n]
        · rw [(ek 54 (by decide) (by decide) (by decide)).1, (f1.2.2.1 54 (by omega)).1, i9]
        · rw [(ek 59 (by decide) (by decide) (by decide)).1, (f1.2.2.1 59 (by omega)).1, il m' hm']
        · have o55 : ∀ j, j ≠ m → ah_i u4 55 j = ah_i u 55 j := fun j n => by rw [q4', ah_i_sa, if_neg (by omega), q3', ah_i_sn (by omega), q2', ah_i_sn (by omega), (f1.2.2.1 55 (by omega)).1]
          have o56 : ∀ j, j ≠ m → ah_i u4 56 j = ah_i u 56 j := fun j n => by rw [q4', ah_i_sa, if_neg (by omega), q3', ah_i_sn (by omega), q2', ah_i_sn (by omega), (f1.2.2.1 56 (by omega)).1]
          by_cases z : m' = m
          · subst z
            have v55 : ah_i u4 55 m' = r := by rw [q4', ah_i_sa, if_neg (by omega), q3', ah_i_sn (by omega), q2', ah_i_ss]
            have v56 : ah_i u4 56 m' = ah_i u1 43 7 := by rw [q4', ah_i_sa, if_neg (by omega), q3', ah_i_ss]
            rw [v55, v56]
            refine ⟨hr, h7, fun l hl => ?_⟩
            rw [q4', ah_i_sa, if_pos rfl]
            unfold va_cpy
            rw [if_pos (by omega), q3', ah_i_sn (by omega), q2', ah_i_sn (by omega), show 0 + (10 * m' + l - 10 * m') = l by omega]
            exact hoil l hl
          · rw [o55 m' z, o56 m' z]
            obtain ⟨y1, y2, y3⟩ := rows m' (by omega)
            refine ⟨y1, y2, fun l hl => ?_⟩
            rw [q4', ah_i_sa, if_pos rfl]
            unfold va_cpy
            rw [if_neg (by omega), q3', ah_i_sn (by omega), q2', ah_i_sn (by omega), (f1.2.2.1 57 (by omega)).1]
            exact y3 l hl
    refine lp 120 0 g8 (by omega) c8.1 (by rw [c8.2.1, x5]) (fun a ha => eqc_trans (e5 a (by omega) (by omega)) (c8.2.2 a (by omega))) (fun j n => by rw [(c8.2.2 54 (by omega)).1, j54 j n]) (fun w => wB_of (c8.2.2 27 (by omega)).1 (wB_of (e5 27 (by omega) (by omega)).1 w)) (by rw [(c8.2.2 54 (by omega)).1]; exact i54) (fun m hm => by rw [(c8.2.2 59 (by omega)).1]; exact i59 m hm) rn (fun m' hm' => absurd hm' (by omega))
  · (first | refine ⟨fun _ => ?_, fun n_ => absurd (show ¬ ah_i h 54 9 = 0 by rw [o]; decide) n_⟩ | refine ⟨fun n_ => absurd (show ¬ ah_i h 54 9 = 0 by rw [o]; decide) n_, fun _ => ?_⟩ | refine ⟨fun y_ => absurd y_ (show ¬ ah_i h 54 9 = 0 by rw [o]; decide), fun _ => ?_⟩ | refine ⟨fun _ => ?_, fun y_ => absurd y_ (show ¬ ah_i h 54 9 = 0 by rw [o]; decide)⟩)
    exact hq h (chF_r hs) c o r l
/-- how light a minute is -/
theorem c_lightAt {Q : Option Value → ah_T → Prop} (hs : Sh h) (c : cor g0 A h) (i9 : ah_i h 54 9 = 1) (r : chR A h) (l : chL A h) {m : Nat} {x1 : Int32} (e1 : x1 = nI m) (hm : m < 120)
    (hq : ∀ h' v, chF h h' → cor g0 A h' → ah_i h' 54 9 = 1 → chR A h' → chL A h' → brV A (nd0 A) (litM A (nd0 A) m) m v → Q (some (.int v)) h') : Mt mX0_lightAt [.ref 54, .int x1] h Q := by
  subst e1
  have wl := c.1.1.2.2.1
  have wl1 := wl.1
  have wn1 := c.1.2.2.1.2.2.1.1
  have n59 : ∀ {g : ah_T}, Sh g → ah_n g 59 = 120 := fun hs => sh_n hs 59 120 (by decide) (by decide) rfl
  have vm : vp_in (nI m) 120 := (vp_nI (by omega)).mpr hm
  have sf : ∀ (n : Nat) (f : Nat → Bool), (List.range (n + 1)).any f = ((List.range n).any f || f n) := fun n f => by rw [List.range_succ, List.any_append, List.any_cons, List.any_nil, Bool.or_false]
  let P1 : Nat → Nat → Bool := fun n i => (List.range n).any (fun l => litM A (nd0 A) m l && reB A (l + 1) (A (61 + 3 * l)) m (A (60 + 3 * l)) i)
  let P2 : Nat → Nat → Bool := fun n i => (List.range n).any (fun k => decide (plA A k m ≠ 0) && reB A 0 (A (162 + 19 * k)) m (plA A k m - 1) i)
  have l76 : ∀ (q k : Nat) (g : ah_T) (v : Int32), k + q = A 248 → chF h g → cor g0 A g → ah_i g 54 9 = 1 → chR A g → chL A g → (∀ i, i < 32 → (bt v i = true ↔ i < 12 ∧ (P1 (A 246) i || P2 k i) = true)) → Wp mX0_lightAt Q 0 0 76 [some (.ref 54), some (.int (nI m)), some (.int v), some (.int (nI k)), none] [] g := by
    intro q
    induction q with
    | zero =>
      intro k g v hk f cg ig rg lg hv
      have e9 : k = A 248 := by omega
      subst e9
      refine T_X0_lightAt_76 f.1 _ _ _ ?_
      rw [cg.2.2.1.2.2.2.1]
      (first | refine ⟨fun _ => ?_, fun n_ => absurd (show nI (nd0 A).q ≤ nI (A 248) from nI_le (Nat.le_refl _) (by omega)) n_⟩ | refine ⟨fun n_ => absurd (show nI (nd0 A).q ≤ nI (A 248) from nI_le (Nat.le_refl _) (by omega)) n_, fun _ => ?_⟩ | refine ⟨fun y_ => absurd y_ (show nI (nd0 A).q ≤ nI (A 248) from nI_le (Nat.le_refl _) (by omega)), fun _ => ?_⟩ | refine ⟨fun _ => ?_, fun y_ => absurd y_ (show nI (nd0 A).q ≤ nI (A 248) from nI_le (Nat.le_refl _) (by omega))⟩)
      rw [nI_clamp (show m < 2 ^ 31 by omega), n59 f.1]
      refine ⟨vm, ?_⟩
      rintro h14 rfl
      rw [ah_n_si, n59 f.1, ah_i_ss]
      have bv : brV A (nd0 A) (litM A (nd0 A) m) m v := hv
      refine ⟨vm, hq _ v (chF_s (by omega) f) (cor_e (fun a ha => eqc_si eqc_rfl (by omega)) (sh_si f.1) (ah_x_si _ _ _ _) (stO_fr (fun a ha j => ah_i_sn (by omega)) cg.2.2.2.1) cg) (by rw [ah_i_sn (by omega)]; exact ig) (chR_fr (fun a ha j => ah_i_sn (by omega)) rg) (fun m' hm' => ?_) bv⟩
      rw [ah_i_si]
      by_cases z : m' = m
      · rw [if_pos ⟨rfl, z⟩, z]; exact .inr bv
      · rw [if_neg (fun y => z y.2)]; exact lg m' hm'
    | succ q ih =>
      intro k g v hk f cg ig rg lg hv
      have hk2 : k < A 248 := by omega
      obtain ⟨d0, d1, d2, d3, d4, d5, d6, d7⟩ := cg.2.2.1
      obtain ⟨u1, u2⟩ := d0.2.2.2 k hk2
      have u3 := u2 m hm
      obtain ⟨t1, t2⟩ := d6 k hk2
      have c1 : nI k * 120 + nI m = nI (120 * k + m) := by rw [n_120, nI_mul, nI_add]; congr 1; omega
      refine T_X0_lightAt_76 f.1 _ _ _ ?_
      rw [d3]
      (first | refine ⟨fun _ => ?_, fun n_ => absurd (show ¬ nI (nd0 A).q ≤ nI k from nI_ge hk2 (by show A 248 < 2 ^ 31; omega)) n_⟩ | refine ⟨fun n_ => absurd (show ¬ nI (nd0 A).q ≤ nI k from nI_ge hk2 (by show A 248 < 2 ^ 31; omega)) n_, fun _ => ?_⟩ | refine ⟨fun y_ => absurd y_ (show ¬ nI (nd0 A).q ≤ nI k from nI_ge hk2 (by show A 248 < 2 ^ 31; omega)), fun _ => ?_⟩ | refine ⟨fun _ => ?_, fun y_ => absurd y_ (show ¬ nI (nd0 A).q ≤ nI k from nI_ge hk2 (by show A 248 < 2 ^ 31; omega))⟩)
      rw [c1, nI_1, nI_clamp (show 120 * k + m < 2 ^ 31 by omega), nI_clamp (show k < 2 ^ 31 by omega), t2 m hm, t1, sh_n f.1 49 360 (by decide) (by decide) rfl, sh_n f.1 48 3 (by decide) (by decide) rfl]
      have u4 : plA A k m ≤ 12 := u3
      refine ⟨(vp_nI (by omega)).mpr (by omega), fun z => ?_, fun z => ⟨(vp_nI (by omega)).mpr (by omega), ?_⟩⟩
      · have p0 : plA A k m = 0 := by
          rcases Nat.eq_zero_or_pos (plA A k m) with w | w
          · exact w
          · have z' : nO (plA A k m) = -1 := z
            rw [show plA A k m = (plA A k m - 1) + 1 by omega, nO_s] at z'
            exact absurd z' (nI_m1 (by omega))
        refine ih (k + 1) g v (by omega) f cg ig rg lg (fun i hi => (hv i hi).trans ?_)
        show _ ↔ _ ∧ (P1 (A 246) i || (List.range (k + 1)).any _) = true
        rw [sf, p0]
        simp only [ne_eq, not_true_eq_false, decide_false, Bool.false_and, Bool.or_false]
        exact Iff.rfl
      · have p0 : plA A k m ≠ 0 := fun y => z (by show nO (plA A k m) = -1; rw [y]; rfl)
        obtain ⟨p, ep⟩ : ∃ p, plA A k m = p + 1 := ⟨plA A k m - 1, by omega⟩
        have ex : nO ((nd0 A).pl k m) = nI p := by show nO (plA A k m) = nI p; rw [ep, nO_s]
        rw [ex]
        refine c_shine f.1 cg (l := 0) rfl rfl rfl rfl (by omega) u1 (by omega) hm (fun g1 w f1 cg1 e1 j9 hw => ⟨_, rfl, f1.1, ?_⟩)
        refine ih (k + 1) g1 _ (by omega) (chF_t f f1) cg1 (by rw [j9]; exact ig) (chR_fr (fun a ha => (e1 a (by omega)).1) rg) (chL_fr (e1 59 (by omega)).1 lg) (fun i hi => ?_)
        rw [b_or, Bool.or_eq_true, hv i hi, hw i hi]
        show _ ↔ _ ∧ (P1 (A 246) i || (List.range (k + 1)).any _) = true
        rw [sf, ← Bool.or_assoc, ep, decide_eq_true (Nat.succ_ne_zero p), Bool.true_and]
        constructor
        · rintro (y | y)
          · exact ⟨y.1, by rw [Bool.or_eq_true]; exact .inl y.2⟩
          · exact ⟨y.1, by rw [Bool.or_eq_true]; exact .inr y.2⟩
        · rintro ⟨y1, y2⟩
          rw [Bool.or_eq_true] at y2
          rcases y2 with y | y
          · exact .inl ⟨y1, y⟩
          · exact .inr ⟨y1, y⟩
  have l14 : ∀ (q x : Nat) (g : ah_T) (v : Int32), x + q = A 246 → chF h g → cor g0 A g → ah_i g 54 9 = 1 → chR A g → chL A g → (∀ i, i < 32 → (bt v i = true ↔ i < 12 ∧ P1 x i = true)) → Wp mX0_lightAt Q 0 0 14 [some (.ref 54), some (.int (nI m)), some (.int v), some (.int (nI x)), none] [] g := by
    intro q
    induction q with
    | zero =>
      intro x g v hx f cg ig rg lg hv
      have e9 : x = A 246 := by omega
      subst e9
      refine T_X0_lightAt_14 f.1 _ _ _ ?_
      rw [cg.1.1.2.1]
      (first | refine ⟨fun _ => ?_, fun n_ => absurd (show nI (A 246) ≤ nI (A 246) from nI_le (Nat.le_refl _) (by omega)) n_⟩ | refine ⟨fun n_ => absurd (show nI (A 246) ≤ nI (A 246) from nI_le (Nat.le_refl _) (by omega)) n_, fun _ => ?_⟩ | refine ⟨fun y_ => absurd y_ (show nI (A 246) ≤ nI (A 246) from nI_le (Nat.le_refl _) (by omega)), fun _ => ?_⟩ | refine ⟨fun _ => ?_, fun y_ => absurd y_ (show nI (A 246) ≤ nI (A 246) from nI_le (Nat.le_refl _) (by omega))⟩)
      refine l76 (A 248) 0 g v (by omega) f cg ig rg lg (fun i hi => (hv i hi).trans ?_)
      show _ ↔ _ ∧ (P1 (A 246) i || (List.range 0).any _) = true
      rw [List.range_zero, List.any_nil, Bool.or_false]
    | succ q ih =>
      intro x g v hx f cg ig rg lg hv
      have hx2 : x < A 246 := by omega
      obtain ⟨d0, d1, d2, d3, d4, d5, d6, d7⟩ := cg.2.2.1
      obtain ⟨v1, v2, _⟩ := wl.2 x hx2
      obtain ⟨k1, k2⟩ := d5 x hx2
      have lb := (rg m hm).1 x (by omega)
      refine T_X0_lightAt_14 f.1 _ _ _ ?_
      rw [cg.1.1.2.1]
      (first | refine ⟨fun _ => ?_, fun n_ => absurd (show ¬ nI (A 246) ≤ nI x from nI_ge (by omega) (by omega)) n_⟩ | refine ⟨fun n_ => absurd (show ¬ nI (A 246) ≤ nI x from nI_ge (by omega) (by omega)) n_, fun _ => ?_⟩ | refine ⟨fun y_ => absurd y_ (show ¬ nI (A 246) ≤ nI x from nI_ge (by omega) (by omega)), fun _ => ?_⟩ | refine ⟨fun _ => ?_, fun y_ => absurd y_ (show ¬ nI (A 246) ≤ nI x from nI_ge (by omega) (by omega))⟩)
      rw [nI_1, nI_clamp (show m < 2 ^ 31 by omega), nI_clamp (show x < 2 ^ 31 by omega), k1, k2, b_bit _ x (by omega), sh_n f.1 55 120 (by decide) (by decide) rfl, sh_n f.1 44 10 (by decide) (by decide) rfl, sh_n f.1 45 10 (by decide) (by decide) rfl]
      refine ⟨vm, fun z => ?_, fun z => ⟨(vp_nI (by omega)).mpr (by omega), (vp_nI (by omega)).mpr (by omega), ?_⟩⟩
      · have lf : litM A (nd0 A) m x = false := by
          cases e : litM A (nd0 A) m x
          · rfl
          · rw [lb.mpr ⟨hx2, e⟩] at z; exact absurd z (by decide)
        refine ih (x + 1) g v (by omega) f cg ig rg lg (fun i hi => (hv i hi).trans ?_)
        show _ ↔ _ ∧ (List.range (x + 1)).any _ = true
        rw [sf, lf, Bool.false_and, Bool.or_false]
      · have lt : litM A (nd0 A) m x = true := by
          cases e : bt (ah_i g 55 m) x
          · exact absurd e z
          · exact (lb.mp e).2
        refine c_shine f.1 cg (l := x + 1) (nO_s x).symm rfl rfl rfl (by omega) v2 v1 hm (fun g1 w f1 cg1 e1 j9 hw => ⟨_, rfl, f1.1, ?_⟩)
        refine ih (x + 1) g1 _ (by omega) (chF_t f f1) cg1 (by rw [j9]; exact ig) (chR_fr (fun a ha => (e1 a (by omega)).1) rg) (chL_fr (e1 59 (by omega)).1 lg) (fun i hi => ?_)
        rw [b_or, Bool.or_eq_true, hv i hi, hw i hi]
        show _ ↔ _ ∧ (List.range (x + 1)).any _ = true
        rw [sf, lt, Bool.true_and, Bool.or_eq_true]
        constructor
        · rintro (y | y)
          · exact ⟨y.1, .inl y.2⟩
          · exact ⟨y.1, .inr y.2⟩
        · rintro ⟨y1, y | y⟩
          · exact .inl ⟨y1, y⟩
          · exact .inr ⟨y1, y⟩
  refine T_X0_lightAt hs _ ?_
  rw [nI_clamp (show m < 2 ^ 31 by omega), n59 hs]
  refine ⟨vm, fun z => ⟨vm, hq h _ (chF_r hs) c i9 r l ((l m hm).resolve_left z)⟩, fun _ => l14 (A 246) 0 h 0 (by omega) (chF_r hs) c i9 r l (fun i hi => ?_)⟩
  rw [b_0]
  refine ⟨fun y => absurd y (by decide), fun y => ?_⟩
  have := y.2
  simp only [P1, List.range_zero, List.any_nil] at this
  exact absurd this (by decide)
end RL
