/-! ===== to hang: the class weighs sites ===== -/
noncomputable def shI (A : Nat → Nat) (s k m it ot : Nat) : Bool := decide (it % 3 < hN k ∧ ot % 3 < hN k ∧ it / 3 ≠ ot / 3) && shS9 A (it / 3) (nth (sS k) (it % 3)) (nth (sS k) (ot % 3)) (sgN A (nth (sS s) (it / 3)) (nth (sS s) (ot / 3))) 0 m
def wgO (A : Nat → Nat) (s k m : Nat) (h : ah_T) : Prop := (∀ it, it < 3 * hN s → it % 3 < hN k → ∀ i, i < 32 → (bt (ah_i h 77 it) i = true ↔ i < 12 ∧ reB A (it / 3 + 1) (nth (sS k) (it % 3)) m (nth (sS s) (it / 3)) i = true)) ∧ ∀ it ot, it < 3 * hN s → ot < 3 * hN s → (bt (ah_i h 78 it) ot = true ↔ shI A s k m it ot = true ∨ shI A s k m ot it = true)
/-- off what is asked and planned -/
def hgF (h g : ah_T) : Prop := Sh g ∧ ah_x g = ah_x h ∧ (∀ a, (a < 26 ∨ (28 < a ∧ a < 35) ∨ (35 < a ∧ a < 39) ∨ (39 < a ∧ a < 74) ∨ 78 < a) → eqc h g a) ∧ (∀ j, j ≠ 0 → j ≠ 1 → ah_i g 74 j = ah_i h 74 j) ∧ (wB h → wB g)
section HW
variable {A : Nat → Nat} {h g u : ah_T} {s k w m r i j a b n c g0 : Nat}
theorem hgF_r (hs : Sh h) : hgF h h := ⟨hs, rfl, fun _ _ => eqc_rfl, fun _ _ _ => rfl, fun w => w⟩
theorem hgF_t {h1 : ah_T} (p : hgF h g) (q : hgF g h1) : hgF h h1 := ⟨q.1, by rw [q.2.1, p.2.1], fun a n => eqc_trans (p.2.2.1 a n) (q.2.2.1 a n), fun j n1 n2 => by rw [q.2.2.2.1 j n1 n2, p.2.2.2.1 j n1 n2], fun w => q.2.2.2.2 (p.2.2.2.2 w)⟩
theorem hgF_ak (f : akF h g) : hgF h g := ⟨f.1, f.2.1, fun a n => f.2.2.1 a (by omega) (by omega) (by omega) (by omega), fun j _ _ => (f.2.2.1 74 (by decide) (by decide) (by decide) (by decide)).1 j, f.2.2.2⟩
theorem hgF_s {a j : Nat} {x : Int32} (o : a = 75 ∨ a = 76 ∨ a = 77 ∨ a = 78 ∨ (a = 74 ∧ (j = 0 ∨ j = 1))) (p : hgF h g) : hgF h (ah_si g a j x) := ⟨sh_si p.1, by rw [ah_x_si, p.2.1], fun b n => eqc_si (p.2.2.1 b n) (by omega), fun i n1 n2 => by rw [ah_i_sn (by omega)]; exact p.2.2.2.1 i n1 n2, fun w => wB_of (fun j => ah_i_sn (by omega)) (p.2.2.2.2 w)⟩
theorem cor_h (e : ∀ a, (a < 54 ∨ 78 < a) → eqc h g a) (hs : Sh g) (hx : ah_x g = ah_x h) (c : cor g0 A h) : cor g0 A g := cor_g (fun a ha => e a (by omega)) (.inr trivial) hs hx c
theorem lt_it (hk : k < 64) (h3 : hN k ≤ 3) (hit : i % 3 < hN k) : nth (sS k) (i % 3) < 6 := nth_bd (K := 6) hk hit
/-- how far a lamp at a site would reach, and what that lights -/
theorem c_reach {K : Int32 → ah_T → Prop} (hs : Sh h) (c : cor g0 A h) {l k a m : Nat} {x1 x2 x3 x4 : Int32} (e1 : x1 = nI l) (e2 : x2 = nI k) (e3 : x3 = nI a) (e4 : x4 = nI m) (hl : l < 10) (hk : k < 6) (ha : a < 12) (hm : m < 120)
    (hq : ∀ h' v, hgF h h' → cor g0 A h' → (∀ j, 73 < j → eqc h h' j) → (∀ i, i < 32 → (bt v i = true ↔ i < 12 ∧ reB A (l + 1) k m a i = true)) → K v h') : Mt mX8_ask [.ref 38, .int 1, .int x1, .int x2, .int (-1), .int (-1), .int (-1), .int x4] h (ab_qi fun v14 h12 => Sh h12 ∧ (Mt mX6_within [.ref 29, .int x3, .int v14] h12 (ab_qi fun v17 h15 => Sh h15 ∧ K v17 h15))) := by
  subst e1 e2 e3 e4
  have tm := c.2.1
  refine c_ask hs tm.1 tm.2.1 tm.2.2.1 (what := 1) (w := wQ l k (-1) (-1) (-1) m (A 242) (A 244)) rfl (by omega) (nI_toInt (by omega)) (nI_toInt (by omega)) rfl rfl rfl (nI_toInt (by omega)) rfl rfl (wQ_rg ⟨by omega, by omega⟩ ⟨by omega, by omega⟩ ⟨by omega, by omega⟩ ⟨by omega, by omega⟩ ⟨by omega, by omega⟩ ⟨by omega, by omega⟩) (fun g1 f1 tp1 => ⟨_, rfl, f1.1, ?_⟩)
  have t1 := tm_ask f1 tp1 tm
  have c1 := cor_m (tmF_ak f1) t1 c
  have er : ansA (lawL A) 1 (wQ l k (-1) (-1) (-1) m (A 242) (A 244)) = rchA A (l + 1) k m := by
    unfold ansA rchA
    rw [if_neg (by decide), show (((l + 1 : Nat) : Int) - 1) = (l : Int) by omega]
  have r9 := rchA_le A (l + 1) k m
  rw [er]
  refine c_within f1.1 c1.2.2.2.1 c1.2.2.2.2 rfl rfl ha (by omega) (fun g2 v s2 x2 e2 st2 bl => ⟨_, rfl, s2, ?_⟩)
  have f2 : hgF g1 g2 := ⟨s2, x2, fun b n => e2 b (by omega), fun j _ _ => (e2 74 (by omega)).1 j, wB_of (e2 27 (by omega)).1⟩
  exact hq g2 v (hgF_t (hgF_ak f1) f2) (cor_e (fun b n => e2 b (by omega)) s2 x2 st2 c1) (fun j hj => eqc_trans (f1.2.2.1 j (by omega) (by omega) (by omega) (by omega)) (e2 j (by omega))) (ball_re c1.2.2.2.2 ha bl)
theorem c_weigh {Q : Option Value → ah_T → Prop} {x1 x2 x3 : Int32} (hs : Sh h) (cc : cor g0 A h) (hs12 : s < 4096) (hn6 : hN s ≤ 6) (hk6 : k < 64) (hk3 : hN k ≤ 3) (hm : m < 120) (e1 : x1 = nI s) (e2 : x2 = nI k) (e3 : x3 = nI m) (hq : ∀ g, hgF h g → cor g0 A g → (∀ a, (a = 74 ∨ a = 75 ∨ a = 76) → eqc h g a) → wgO A s k m g → Q none g) : Mt mX4_weighSites [.ref 74, .int x1, .int x2, .int x3] h Q := by
  subst e1 e2 e3
  have n78 : ∀ {u : ah_T}, Sh u → ah_n u 78 = 18 := fun hs => sh_n hs 78 18 (by decide) (by decide) rfl
  have n77 : ∀ {u : ah_T}, Sh u → ah_n u 77 = 18 := fun hs => sh_n hs 77 18 (by decide) (by decide) rfl
  have c12 : ∀ i, i < hN s → nth (sS s) i < 12 := fun i hi => nth_bd (K := 12) hs12 hi
  have k6 : ∀ i, i < hN k → nth (sS k) i < 6 := fun i hi => nth_bd (K := 6) hk6 hi
  have i3 : (3 : Int32) = nI 3 := rfl
  refine T_X4_weighSites hs _ _ _ ?_
  refine c_fillA hs 78 0 (sh_k hs 78 14 (by decide) rfl) (by rw [n78 hs]; decide) ⟨rfl, sh_sa hs, ?_⟩
  obtain ⟨v, ev⟩ : ∃ v, v = ab_fl h 78 0 (ah_n h 78) 0 := ⟨_, rfl⟩
  rw [← ev]
  have sv : Sh v := by rw [ev]; exact sh_sa hs
  have ee : ∀ a, a ≠ 78 → eqc h v a := fun a n => by rw [ev]; exact eqc_fl eqc_rfl n
  have fv : hgF h v := ⟨sv, by rw [ev]; rfl, fun a n => ee a (by omega), fun j _ _ => (ee 74 (by decide)).1 j, wB_of (ee 27 (by decide)).1⟩
  have i78 : ∀ it, it < 18 → ah_i v 78 it = 0 := fun it hit => by
    rw [ev, ah_i_fl, n78 hs, if_pos ⟨rfl, by omega, hit⟩]
  have cv : cor g0 A v := cor_h (fun a ha => ee a (by omega)) sv fv.2.1 cc
  rw [bc_20 (show s < 2 ^ 20 by omega)]
  have emin : (if nI (hN s) < 6 then nI (hN s) else 6) * 3 = nI (3 * hN s) := by
    have : (if nI (hN s) < 6 then nI (hN s) else 6) = nI (hN s) := by
      by_cases z : hN s < 6
      · rw [if_pos (show nI (hN s) < 6 from nI_lt (b := 6) z (by omega))]
      · rw [if_neg (show ¬ nI (hN s) < 6 from nI_nlt (b := 6) (by omega) (by omega)), show hN s = 6 by omega]; rfl
    rw [this, i3, nI_mul, Nat.mul_comm]
  rw [emin]
  -- what clashes till now
  let P : Nat → Nat → Nat → Nat → Prop := fun i0 o0 it ot => it < i0 ∨ (it = i0 ∧ ot < o0)
  have l24 : ∀ (q it0 : Nat) (u : ah_T), it0 + q = 3 * hN s → hgF h u → cor g0 A u → (∀ a, (a = 74 ∨ a = 75 ∨ a = 76) → eqc h u a) → (∀ it, it < it0 → it % 3 < hN k → ∀ i, i < 32 → (bt (ah_i u 77 it) i = true ↔ i < 12 ∧ reB A (it / 3 + 1) (nth (sS k) (it % 3)) m (nth (sS s) (it / 3)) i = true)) → (∀ it ot, it < 3 * hN s → ot < 3 * hN s → (bt (ah_i u 78 it) ot = true ↔ (it < it0 ∧ shI A s k m it ot = true) ∨ (ot < it0 ∧ shI A s k m ot it = true))) → Wp mX4_weighSites Q 0 0 24 [some (.ref 74), some (.int (nI s)), some (.int (nI k)), some (.int (nI m)), some (.int (nI (3 * hN s))), some (.int (nI it0)), none, none, none, none, none, none] [] u := by
    intro q
    induction q with
    | zero =>
      intro it0 u hit fu cu eu sh cl
      have e9 : it0 = 3 * hN s := by omega
      subst e9
      refine T_X4_weighSites_24 fu.1 _ _ _ _ _ ?_
      (first | refine ⟨fun _ => ?_, fun n_ => absurd (show nI (3 * hN s) ≤ nI (3 * hN s) from nI_le (Nat.le_refl _) (by omega)) n_⟩ | refine ⟨fun n_ => absurd (show nI (3 * hN s) ≤ nI (3 * hN s) from nI_le (Nat.le_refl _) (by omega)) n_, fun _ => ?_⟩ | refine ⟨fun y_ => absurd y_ (show nI (3 * hN s) ≤ nI (3 * hN s) from nI_le (Nat.le_refl _) (by omega)), fun _ => ?_⟩ | refine ⟨fun _ => ?_, fun y_ => absurd y_ (show nI (3 * hN s) ≤ nI (3 * hN s) from nI_le (Nat.le_refl _) (by omega))⟩)
      refine hq u fu cu eu ⟨sh, fun it ot h1 h2 => (cl it ot h1 h2).trans ⟨fun y => ?_, fun y => ?_⟩⟩
      · rcases y with y | y
        · exact .inl y.2
        · exact .inr y.2
      · rcases y with y | y
        · exact .inl ⟨h1, y⟩
        · exact .inr ⟨h2, y⟩
    | succ q ih =>
      intro it0 u hit fu cu eu sh cl
      have hlt : it0 < 3 * hN s := by omega
      have d3 : it0 / 3 < hN s := by omega
      have ed : nI it0 / 3 = nI (it0 / 3) := nI_divI (b := 3) (by omega) (by omega)
      have er : nI it0 - nI it0 / 3 * 3 = nI (it0 % 3) := nI_remI (b := 3) (by omega) (by omega)
      refine T_X4_weighSites_24 fu.1 _ _ _ _ _ ?_
      (first | refine ⟨fun _ => ?_, fun n_ => absurd (show ¬ nI (3 * hN s) ≤ nI it0 from nI_ge hlt (by omega)) n_⟩ | refine ⟨fun n_ => absurd (show ¬ nI (3 * hN s) ≤ nI it0 from nI_ge hlt (by omega)) n_, fun _ => ?_⟩ | refine ⟨fun y_ => absurd y_ (show ¬ nI (3 * hN s) ≤ nI it0 from nI_ge hlt (by omega)), fun _ => ?_⟩ | refine ⟨fun _ => ?_, fun y_ => absurd y_ (show ¬ nI (3 * hN s) ≤ nI it0 from nI_ge hlt (by omega))⟩)
      rw [er, ed, nI_1]
      refine c_bitOf fu.1 rfl rfl (by omega) (fun _ => ⟨_, rfl, fu.1, ?_⟩) (fun y => absurd y (by omega))
      refine c_bitOf fu.1 rfl rfl (by omega) (fun hr => ⟨_, rfl, fu.1, ?_⟩) (fun hr => ⟨_, rfl, fu.1, ?_⟩)
      rotate_left
      · (first | refine ⟨fun _ => ?_, fun n_ => absurd (show (-1 : Int32) = -1 from rfl) n_⟩ | refine ⟨fun n_ => absurd (show (-1 : Int32) = -1 from rfl) n_, fun _ => ?_⟩ | refine ⟨fun y_ => absurd y_ (show (-1 : Int32) = -1 from rfl), fun _ => ?_⟩ | refine ⟨fun _ => ?_, fun y_ => absurd y_ (show (-1 : Int32) = -1 from rfl)⟩)
        refine ih (it0 + 1) u (by omega) fu cu eu (fun it h1 h2 => sh it ?_ h2) (fun it ot h1 h2 => (cl it ot h1 h2).trans ?_)
        · by_cases z : it = it0
          · rw [z] at h2; omega
          · omega
        · have no1 : ∀ x, shI A s k m it0 x = false := fun x => by
            unfold shI
            rw [decide_eq_false (fun y => by omega)]; rfl
          constructor
          · rintro (y | y)
            · exact .inl ⟨by omega, y.2⟩
            · exact .inr ⟨by omega, y.2⟩
          · rintro (y | y)
            · refine .inl ⟨?_, y.2⟩
              by_cases z : it = it0
              · rw [z, no1] at y; exact absurd y.2 (by decide)
              · omega
            · refine .inr ⟨?_, y.2⟩
              by_cases z : ot = it0
              · rw [z, no1] at y; exact absurd y.2 (by decide)
              · omega
      have kk := k6 _ hr
      (first | refine ⟨fun _ => ?_, fun n_ => absurd (show ¬ nI (nth (sS k) (it0 % 3)) = -1 from nI_m1 (by omega)) n_⟩ | refine ⟨fun n_ => absurd (show ¬ nI (nth (sS k) (it0 % 3)) = -1 from nI_m1 (by omega)) n_, fun _ => ?_⟩ | refine ⟨fun y_ => absurd y_ (show ¬ nI (nth (sS k) (it0 % 3)) = -1 from nI_m1 (by omega)), fun _ => ?_⟩ | refine ⟨fun _ => ?_, fun y_ => absurd y_ (show ¬ nI (nth (sS k) (it0 % 3)) = -1 from nI_m1 (by omega))⟩)
      refine c_reach (l := it0 / 3) (k := nth (sS k) (it0 % 3)) (a := nth (sS s) (it0 / 3)) (m := m) fu.1 cu rfl rfl rfl rfl (by omega) kk (c12 _ d3) hm (fun g v fg cg eg bv => ?_)
      rw [n77 fg.1, nI_clamp (show it0 < 2 ^ 31 by omega)]
      refine ⟨(vp_nI (by omega)).mpr (by omega), ?_⟩
      rintro h19 rfl
      -- the others
      have l99 : ∀ (q2 o0 : Nat) (w : ah_T), o0 + q2 = 3 * hN s → hgF h w → cor g0 A w → (∀ a, (a = 74 ∨ a = 75 ∨ a = 76) → eqc h w a) → (∀ it, it ≤ it0 → it % 3 < hN k → ∀ i, i < 32 → (bt (ah_i w 77 it) i = true ↔ i < 12 ∧ reB A (it / 3 + 1) (nth (sS k) (it % 3)) m (nth (sS s) (it / 3)) i = true)) → (∀ it ot, it < 3 * hN s → ot < 3 * hN s → (bt (ah_i w 78 it) ot = true ↔ (P it0 o0 it ot ∧ shI A s k m it ot = true) ∨ (P it0 o0 ot it ∧ shI A s k m ot it = true))) → Wp mX4_weighSites Q 0 0 99 [some (.ref 74), some (.int (nI s)), some (.int (nI k)), some (.int (nI m)), some (.int (nI (3 * hN s))), some (.int (nI it0)), some (.int (nI (it0 / 3))), some (.int (nI (nth (sS s) (it0 / 3)))), some (.int (nI (nth (sS k) (it0 % 3)))), some (.int (nI o0)), none, none] [] w := by
        intro q2
        induction q2 with
        | zero =>
          intro o0 w ho fw cw ew shw clw
          have e9 : o0 = 3 * hN s := by omega
          subst e9
          refine T_X4_weighSites_99 fw.1 _ _ _ _ _ _ _ _ _ ?_
          (first | refine ⟨fun _ => ?_, fun n_ => absurd (show nI (3 * hN s) ≤ nI (3 * hN s) from nI_le (Nat.le_refl _) (by omega)) n_⟩ | refine ⟨fun n_ => absurd (show nI (3 * hN s) ≤ nI (3 * hN s) from nI_le (Nat.le_refl _) (by omega)) n_, fun _ => ?_⟩ | refine ⟨fun y_ => absurd y_ (show nI (3 * hN s) ≤ nI (3 * hN s) from nI_le (Nat.le_refl _) (by omega)), fun _ => ?_⟩ | refine ⟨fun _ => ?_, fun y_ => absurd y_ (show nI (3 * hN s) ≤ nI (3 * hN s) from nI_le (Nat.le_refl _) (by omega))⟩)
          rw [nI_1]
          refine ih (it0 + 1) w (by omega) fw cw ew (fun it h1 h2 => shw it (by omega) h2) (fun it ot h1 h2 => (clw it ot h1 h2).trans ?_)
          have pe : ∀ x y, y < 3 * hN s → (P it0 (3 * hN s) x y ↔ x < it0 + 1) := fun x y hy => ⟨fun z => by rcases z with z | z <;> omega, fun z => by
            by_cases w : x = it0
            · exact .inr ⟨w, hy⟩
            · exact .inl (by omega)⟩
          rw [pe it ot h2, pe ot it h1]
        | succ q2 ih2 =>
          intro o0 w ho fw cw ew shw clw
          have holt : o0 < 3 * hN s := by omega
          have d3' : o0 / 3 < hN s := by omega
          have ed' : nI o0 / 3 = nI (o0 / 3) := nI_divI (b := 3) (by omega) (by omega)
          have er' : nI o0 - nI o0 / 3 * 3 = nI (o0 % 3) := nI_remI (b := 3) (by omega) (by omega)
          have pst : ∀ x y, (x = it0 → y = o0 → shI A s k m it0 o0 = false) → ((P it0 (o0 + 1) x y ∧ shI A s k m x y = true) ↔ (P it0 o0 x y ∧ shI A s k m x y = true)) := by
            intro x y no
            constructor
            · rintro ⟨z1, z2⟩
              refine ⟨?_, z2⟩
              rcases z1 with z1 | ⟨z1, z3⟩
              · exact .inl z1
              · by_cases z4 : y = o0
                · rw [z1, z4, no z1 z4] at z2; exact absurd z2 (by decide)
                · exact .inr ⟨z1, by omega⟩
            · rintro ⟨z1, z2⟩
              refine ⟨?_, z2⟩
              rcases z1 with z1 | ⟨z1, z3⟩
              · exact .inl z1
              · exact .inr ⟨z1, by omega⟩
          have skip : ∀ (w' : ah_T), hgF h w' → cor g0 A w' → (∀ a, 73 < a → eqc w w' a) → shI A s k m it0 o0 = false → Wp mX4_weighSites Q 0 0 99 [some (.ref 74), some (.int (nI s)), some (.int (nI k)), some (.int (nI m)), some (.int (nI (3 * hN s))), some (.int (nI it0)), some (.int (nI (it0 / 3))), some (.int (nI (nth (sS s) (it0 / 3)))), some (.int (nI (nth (sS k) (it0 % 3)))), some (.int (nI (o0 + 1))), none, none] [] w' := by
            intro w' fw' cw' ee' no
            refine ih2 (o0 + 1) w' (by omega) fw' cw' (fun a ha => eqc_trans (ew a ha) (ee' a (by omega))) (fun it h1 h2 => by rw [(ee' 77 (by omega)).1]; exact shw it h1 h2) (fun it ot h1 h2 => ?_)
            rw [(ee' 78 (by omega)).1, clw it ot h1 h2, pst it ot (fun _ _ => no), pst ot it (fun _ _ => no)]
          refine T_X4_weighSites_99 fw.1 _ _ _ _ _ _ _ _ _ ?_
          (first | refine ⟨fun _ => ?_, fun n_ => absurd (show ¬ nI (3 * hN s) ≤ nI o0 from nI_ge holt (by omega)) n_⟩ | refine ⟨fun n_ => absurd (show ¬ nI (3 * hN s) ≤ nI o0 from nI_ge holt (by omega)) n_, fun _ => ?_⟩ | refine ⟨fun y_ => absurd y_ (show ¬ nI (3 * hN s) ≤ nI o0 from nI_ge holt (by omega)), fun _ => ?_⟩ | refine ⟨fun _ => ?_, fun y_ => absurd y_ (show ¬ nI (3 * hN s) ≤ nI o0 from nI_ge holt (by omega))⟩)
          rw [er', ed', nI_1, nI_eq (show o0 / 3 < 2 ^ 31 by omega) (show it0 / 3 < 2 ^ 31 by omega)]
          have site : ∀ (v25 : Int32), (∀ (K : Prop), K → K) → (o0 / 3 = it0 / 3 ∨ v25 = -1 → shI A s k m it0 o0 = false) → (¬ o0 / 3 = it0 / 3 → ¬ v25 = -1 → o0 % 3 < hN k ∧ v25 = nI (nth (sS k) (o0 % 3))) → Mt mX4_placeOf [.int (nI s), .int (nI (o0 / 3))] w (ab_qi fun v28 h26 => Sh h26 ∧ ((¬ (f_X11_isIn (nI (nth (sS s) (it0 / 3))) 12) = 0 → (¬ (f_X11_isIn v28 12) = 0 → vp_in ((nI (nth (sS s) (it0 / 3)) * 12) + v28) (ah_n h26 34)))) ∧ ((o0 / 3 = it0 / 3 → Wp mX4_weighSites Q 0 0 99 [some (.ref 74), some (.int (nI s)), some (.int (nI k)), some (.int (nI m)), some (.int (nI (3 * hN s))), some (.int (nI it0)), some (.int (nI (it0 / 3))), some (.int (nI (nth (sS s) (it0 / 3)))), some (.int (nI (nth (sS k) (it0 % 3)))), some (.int (nI (o0 + 1))), none, none] [] h26) ∧ (¬ o0 / 3 = it0 / 3 → ((v25 = (-1) → Wp mX4_weighSites Q 0 0 99 [some (.ref 74), some (.int (nI s)), some (.int (nI k)), some (.int (nI m)), some (.int (nI (3 * hN s))), some (.int (nI it0)), some (.int (nI (it0 / 3))), some (.int (nI (nth (sS s) (it0 / 3)))), some (.int (nI (nth (sS k) (it0 % 3)))), some (.int (nI (o0 + 1))), none, none] [] h26) ∧ (¬ v25 = (-1) → (Mt mX8_ask [.ref 38, .int 0, .int (nI (it0 / 3)), .int (nI (nth (sS k) (it0 % 3))), .int v25, .int (f_X6_sight h26 (nI (nth (sS s) (it0 / 3))) v28), .int 0, .int (nI m)] h26 (ab_qi fun v34 h32 => Sh h32 ∧ ((v34 = 0 → Wp mX4_weighSites Q 0 0 99 [some (.ref 74), some (.int (nI s)), some (.int (nI k)), some (.int (nI m)), some (.int (nI (3 * hN s))), some (.int (nI it0)), some (.int (nI (it0 / 3))), some (.int (nI (nth (sS s) (it0 / 3)))), some (.int (nI (nth (sS k) (it0 % 3)))), some (.int (nI (o0 + 1))), none, none] [] h32) ∧ (¬ v34 = 0 → (vp_in (nI it0) (ah_n h32 78)) ∧ (vp_in (nI it0) (ah_n h32 78)) ∧ (∀ h38, h38 = ah_si h32 78 (Int32.toNatClampNeg (nI it0)) ((ah_i h32 78 (Int32.toNatClampNeg (nI it0))) ||| ((1 : Int32) <<< (nI o0 &&& 31))) → (vp_in (nI o0) (ah_n h38 78)) ∧ (vp_in (nI o0) (ah_n h38 78)) ∧ (∀ h43, h43 = ah_si h38 78 (Int32.toNatClampNeg (nI o0)) ((ah_i h38 78 (Int32.toNatClampNeg (nI o0))) ||| ((1 : Int32) <<< (nI it0 &&& 31))) → Wp mX4_weighSites Q 0 0 99 [some (.ref 74), some (.int (nI s)), some (.int (nI k)), some (.int (nI m)), some (.int (nI (3 * hN s))), some (.int (nI it0)), some (.int (nI (it0 / 3))), some (.int (nI (nth (sS s) (it0 / 3)))), some (.int (nI (nth (sS k) (it0 % 3)))), some (.int (nI (o0 + 1))), none, none] [] h43))))))))))) := by
            intro v25 _ no yes
            refine c_bitOf fw.1 rfl rfl (by omega) (fun _ => ⟨_, rfl, fw.1, v_sight fw.1 (c12 _ d3) (c12 _ d3'), fun z => skip w fw cw (fun _ _ => eqc_rfl) (no (.inl z)), fun z => ⟨fun z2 => skip w fw cw (fun _ _ => eqc_rfl) (no (.inr z2)), fun z2 => ?_⟩⟩) (fun y => absurd y (by omega))
            obtain ⟨hr', ev25⟩ := yes z z2
            rw [ev25, f_sight (c12 _ d3) (c12 _ d3')]
            have tm := cw.2.1
            have dd := tm.2.2.2.2.1 _ _ (c12 _ d3) (c12 _ d3')
            obtain ⟨s1, s2, s3⟩ := sgv_in dd
            have kk' := k6 _ hr'
            have si := shS_iff (l := it0 / 3) (k := nth (sS k) (it0 % 3)) (o := nth (sS k) (o0 % 3)) (la := 0) (mi := m) dd
            have esh : shI A s k m it0 o0 = shS9 A (it0 / 3) (nth (sS k) (it0 % 3)) (nth (sS k) (o0 % 3)) (sgN A (nth (sS s) (it0 / 3)) (nth (sS s) (o0 / 3))) 0 m := by
              unfold shI
              rw [decide_eq_true ⟨hr, hr', fun y => z y.symm⟩, Bool.true_and]
            refine c_ask fw.1 tm.1 tm.2.1 tm.2.2.1 (what := 0) (w := wQ ((it0 / 3 : Nat) : Int) (nth (sS k) (it0 % 3)) (nth (sS k) (o0 % 3)) (sgv A (nth (sS s) (it0 / 3)) (nth (sS s) (o0 / 3))) ((0 : Nat) : Int) m (A 242) (A 244)) rfl (by omega) (nI_toInt (by omega)) (nI_toInt (by omega)) (nI_toInt (by omega)) s1 rfl (nI_toInt (by omega)) rfl rfl (wQ_rg ⟨by omega, by omega⟩ ⟨by omega, by omega⟩ ⟨by omega, by omega⟩ ⟨by omega, by omega⟩ ⟨by omega, by omega⟩ ⟨by omega, by omega⟩) (fun g1 fa tp => ⟨_, rfl, fa.1, ?_⟩)
            have cw1 := cor_m (tmF_ak fa) (tm_ask fa tp tm) cw
            have ea : ∀ a, 73 < a → eqc w g1 a := fun a ha => fa.2.2.1 a (by omega) (by omega) (by omega) (by omega)
            have fw1 := hgF_t fw (hgF_ak fa)
            rcases ansA0 (lawL A) (wQ ((it0 / 3 : Nat) : Int) (nth (sS k) (it0 % 3)) (nth (sS k) (o0 % 3)) (sgv A (nth (sS s) (it0 / 3)) (nth (sS s) (o0 / 3))) ((0 : Nat) : Int) m (A 242) (A 244)) with y | y
            · rw [y]
              refine ⟨fun _ => skip g1 fw1 cw1 ea ?_, fun z => absurd rfl z⟩
              rw [esh]
              cases e : shS9 A (it0 / 3) (nth (sS k) (it0 % 3)) (nth (sS k) (o0 % 3)) (sgN A (nth (sS s) (it0 / 3)) (nth (sS s) (o0 / 3))) 0 m
              · rfl
              · have := si.mpr e
                rw [y] at this
                exact absurd this (by decide)
            · rw [y]
              have et : shI A s k m it0 o0 = true := by rw [esh]; exact si.mp y
              refine ⟨fun z => absurd z (by decide), fun _ => ?_⟩
              rw [n78 fa.1, nI_clamp (show it0 < 2 ^ 31 by omega), nI_clamp (show o0 < 2 ^ 31 by omega)]
              have v1 : vp_in (nI it0) 18 := (vp_nI (by omega)).mpr (by omega)
              have v2 : vp_in (nI o0) 18 := (vp_nI (by omega)).mpr (by omega)
              refine ⟨v1, v1, ?_⟩
              rintro h38 rfl
              rw [n78 (sh_si fa.1)]
              refine ⟨v2, v2, ?_⟩
              rintro h43 rfl
              have ne : it0 ≠ o0 := fun y => z (by rw [y])
              rw [ah_i_sn (a := 78) (j := it0) (b := 78) (k := o0) (fun y => ne y.2.symm)]
              have f43 : hgF h (ah_si (ah_si g1 78 it0 (ah_i g1 78 it0 ||| (1 : Int32) <<< (nI o0 &&& 31))) 78 o0 (ah_i g1 78 o0 ||| (1 : Int32) <<< (nI it0 &&& 31))) := hgF_s (by omega) (hgF_s (by omega) fw1)
              refine ih2 (o0 + 1) _ (by omega) f43 (cor_h (fun a ha => eqc_si (eqc_si eqc_rfl (by omega)) (by omega)) f43.1 (by rw [ah_x_si, ah_x_si]) cw1) (fun a ha => eqc_si (eqc_si (eqc_trans (ew a ha) (ea a (by omega))) (by omega)) (by omega)) (fun it h1 h2 => by rw [ah_i_sn (by omega), ah_i_sn (by omega), (ea 77 (by omega)).1]; exact shw it h1 h2) (fun it ot h1 h2 => ?_)
              have base := clw it ot h1 h2
              rw [← (ea 78 (by omega)).1] at base
              by_cases a1 : it = o0
              · rw [a1, ah_i_ss]
                rw [a1] at base
                rw [b_or, Bool.or_eq_true, base, b_1sh (by omega) (show ot < 32 by omega), decide_eq_true_eq, pst o0 ot (fun y => absurd y (Ne.symm ne))]
                constructor
                · rintro ((y | y) | y)
                  · exact .inl y
                  · refine .inr ⟨?_, y.2⟩
                    rcases y.1 with z1 | z1
                    · exact .inl z1
                    · exact .inr ⟨z1.1, by omega⟩
                  · rw [y]
                    exact .inr ⟨.inr ⟨rfl, by omega⟩, et⟩
                · rintro (y | ⟨y1, y2⟩)
                  · exact .inl (.inl y)
                  · by_cases z1 : ot = it0
                    · exact .inr z1
                    · refine .inl (.inr ⟨?_, y2⟩)
                      rcases y1 with w1 | w1
                      · exact .inl w1
                      · exact absurd w1.1 z1
              · rw [ah_i_sn (fun y => a1 y.2)]
                by_cases a2 : it = it0
                · rw [a2, ah_i_ss]
                  rw [a2] at base
                  rw [b_or, Bool.or_eq_true, base, b_1sh (by omega) (show ot < 32 by omega), decide_eq_true_eq, pst ot it0 (fun _ y => absurd y ne)]
                  constructor
                  · rintro ((y | y) | y)
                    · refine .inl ⟨?_, y.2⟩
                      rcases y.1 with z1 | z1
                      · exact .inl z1
                      · exact .inr ⟨z1.1, by omega⟩
                    · exact .inr y
                    · rw [y]
                      exact .inl ⟨.inr ⟨rfl, by omega⟩, et⟩
                  · rintro (⟨y1, y2⟩ | y)
                    · by_cases z1 : ot = o0
                      · exact .inr z1
                      · refine .inl (.inl ⟨?_, y2⟩)
                        rcases y1 with w1 | w1
                        · exact .inl w1
                        · exact .inr ⟨w1.1, by omega⟩
                    · exact .inl (.inr y)
                · rw [ah_i_sn (fun y => a2 y.2), base, pst it ot (fun y => absurd y a2), pst ot it (fun _ y => absurd y a1)]
          refine c_bitOf fw.1 rfl rfl (by omega) (fun hr' => ⟨_, rfl, fw.1, site _ (fun _ y => y) (fun o => ?_) (fun _ _ => ⟨hr', rfl⟩)⟩) (fun hr' => ⟨_, rfl, fw.1, site _ (fun _ y => y) (fun _ => ?_) (fun _ y => absurd rfl y)⟩)
          · rcases o with o | o
            · unfold shI
              rw [decide_eq_false (fun y => y.2.2 o.symm)]; rfl
            · have := k6 _ hr'
              exact absurd o (nI_m1 (by omega))
          · unfold shI
            rw [decide_eq_false (fun y => by omega)]; rfl
      have f19 : hgF h (ah_si g 77 it0 v) := hgF_s (by omega) (hgF_t fu fg)
      refine l99 (3 * hN s) 0 _ (by omega) f19 (cor_h (fun a ha => eqc_si eqc_rfl (by omega)) f19.1 (by rw [ah_x_si]) cg) (fun a ha => eqc_si (eqc_trans (eu a ha) (eg a (by omega))) (by omega)) (fun it h1 h2 => ?_) (fun it ot h1 h2 => ?_)
      · by_cases z : it = it0
        · rw [z, ah_i_ss]; exact bv
        · rw [ah_i_sn (fun y => z y.2), (eg 77 (by omega)).1]; exact sh it (by omega) h2
      · rw [ah_i_sn (by omega), (eg 78 (by omega)).1, cl it ot h1 h2]
        have pe : ∀ x y, (P it0 0 x y ↔ x < it0) := fun x y => ⟨fun z => by rcases z with z | z <;> omega, fun z => .inl z⟩
        rw [pe it ot, pe ot it]
  refine l24 (3 * hN s) 0 v (by omega) fv cv (fun a ha => ee a (by omega)) (fun it h1 => absurd h1 (by omega)) (fun it ot h1 h2 => ?_)
  rw [i78 it (by omega), b_0]
  exact ⟨fun y => absurd y (by decide), fun y => by rcases y with y | y <;> exact absurd y.1 (by omega)⟩
end HW
