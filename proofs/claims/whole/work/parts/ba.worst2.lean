/-! ===== the darkest way: the class's search ===== -/
section WR2
variable {KX : ah_T → Prop} {RX WX SX : (Nat → Nat) → ah_T → Prop} {A : Nat → Nat} {N : Nd} {h g h1 : ah_T} {g0 sp n k m c r : Nat} {p : Nat → Nat} {S : Ns}
def woR (A : Nat → Nat) (k m c n r : Nat) (h : ah_T) : Prop := ah_i h 62 4 = nI (woF A k m c n r).1 ∧ ((woF A k m c n r).1 < 1201 → ∀ i, i < n → ah_i h 69 i = nI (dg n (woF A k m c n r).2 i))
def woK (k m c n : Nat) (h : ah_T) : Prop := ah_i h 70 0 = nI k ∧ ah_i h 70 1 = nI m ∧ ah_i h 70 2 = nI c ∧ ah_i h 70 3 = nI n
def woX (A : Nat → Nat) (h : ah_T) : Prop := ah_i h 70 0 = -1 ∨ ∃ k m c n, k < 6 ∧ m < 120 ∧ c < 12 ∧ n ≤ 3 ∧ woK k m c n h ∧ woR A k m c n (pw n) h
theorem woX_fr (e : ∀ a j, Cwo a j → ah_i g a j = ah_i h a j) (l : woX A h) : woX A g := by
  have e70 := fun j => e 70 j (.inr (.inr rfl))
  have e69 := fun j => e 69 j (.inr (.inl rfl))
  have e4 := e 62 4 (.inl ⟨rfl, rfl⟩)
  unfold woX woK woR at l ⊢
  simp only [e70, e69, e4]
  exact l
def Pwo (a : Nat) : Prop := a = 62 ∨ a = 69 ∨ a = 70 ∨ a = 71
def woS (A : Nat → Nat) (g0 k m c n r : Nat) (N : Nd) (h u : ah_T) : Prop := grF Pwo h u ∧ tmN g0 A u ∧ cND A N 0 u ∧ N.n = A 246 ∧ cKp (nd0 A) (nSt A (nd0 A) m) u ∧ woK k m c n u ∧ (∀ j, j ≠ 4 → ah_i u 62 j = ah_i h 62 j) ∧ woR A k m c n r u
/-- cells off the night change *)-/
theorem woS_x {r' : Nat} {u v : ah_T} (w : woS A g0 k m c n r N h u) (f : grF Pwo u v) (e : ∀ a, a ≠ 62 → a ≠ 69 → a ≠ 71 → eqc u v a) (e62 : ∀ j, j ≠ 4 → ah_i v 62 j = ah_i u 62 j) (o : woR A k m c n r' v) : woS A g0 k m c n r' N h v := by
  obtain ⟨w1, w2, w3, w4, w5, w6, w7, w8⟩ := w
  refine ⟨grF_t w1 f, tmO_g (fun a ha => e a (by omega) (by omega) (by omega)) f.2.1 w2, cND_fr (fun a ha => (e a (by omega) (by omega) (by omega)).1) (fun j _ => (e 43 (by decide) (by decide) (by decide)).1 j) w3, w4, cKp_fr (e 53 (by decide) (by decide) (by decide)).1 w5, ?_, fun j n1 => by rw [e62 j n1]; exact w7 j n1, o⟩
  unfold woK at w6 ⊢
  simp only [(e 70 (by decide) (by decide) (by decide)).1]
  exact w6
theorem c_findWorst {Q : Option Value → ah_T → Prop} (hs : Sh h) (t : cTw A h) (tm : tmN g0 A h) (d : cND A (nd0 A) 0 h) (nb : nbO (Ew A noS) h 30) (wo : woX A h) (hk : k < 6) (hm : m < 120) (hc : c < 12) (hn : n ≤ 3) {x1 x2 x3 x4 : Int32} (e1 : x1 = nI k) (e2 : x2 = nI m) (e3 : x3 = nI c) (e4 : x4 = nI n)
    (hq : ∀ g, grF Pwo h g → tmN g0 A g → cND A (nd0 A) 0 g → (∀ j, j ≠ 4 → ah_i g 62 j = ah_i h 62 j) → woK k m c n g → woR A k m c n (pw n) g → Q none g) : Mt mX1_findWorst [.ref 62, .int x1, .int x2, .int x3, .int x4] h Q := by
  subst e1 e2 e3 e4
  have h10 := t.1.2.2.1.1
  have pn := pw_le hn
  have z0 : Int32.toNatClampNeg 0 = 0 := rfl
  have z1 : Int32.toNatClampNeg 1 = 1 := rfl
  have z2 : Int32.toNatClampNeg 2 = 2 := rfl
  have z3 : Int32.toNatClampNeg 3 = 3 := rfl
  obtain ⟨before, eb⟩ : ∃ b, b = ct (litM A (nd0 A)) (A 246) m := ⟨_, rfl⟩
  have ble : before ≤ 1200 := by
    have a := ct_le (litM A (nd0 A)) (A 246) m
    have b : m * A 246 ≤ 120 * 10 := Nat.mul_le_mul (by omega) h10
    omega
  -- rows
  have lp : ∀ (q r : Nat) (u : ah_T) (N : Nd), r + q = pw n → woS A g0 k m c n r N h u → Wp mX1_findWorst Q 0 0 143 [some (.ref 62), some (.int (nI k)), some (.int (nI m)), some (.int (nI c)), some (.int (nI n)), some (.int (nI before)), some (.int (nI (pw n))), some (.int (nI r)), none, none, none] [] u := by
    intro q
    induction q with
    | zero =>
      intro r u N hr w
      have e9 : r = pw n := by omega
      subst e9
      obtain ⟨w1, w2, w3, w4, w5, w6, w7, w8⟩ := w
      have tu : cTw A u := cTw_fr (fun a ha => (w1.2.2.1 a (by omega) (fun y => by unfold Pwo at y; omega)).1) t
      refine T_X1_findWorst_143 w1.1 _ _ _ _ _ _ _ ?_
      (first | refine ⟨fun _ => ?_, fun n_ => absurd (show nI (pw n) ≤ nI (pw n) from nI_le (Nat.le_refl _) (by omega)) n_⟩ | refine ⟨fun n_ => absurd (show nI (pw n) ≤ nI (pw n) from nI_le (Nat.le_refl _) (by omega)) n_, fun _ => ?_⟩ | refine ⟨fun y_ => absurd y_ (show nI (pw n) ≤ nI (pw n) from nI_le (Nat.le_refl _) (by omega)), fun _ => ?_⟩ | refine ⟨fun _ => ?_, fun y_ => absurd y_ (show nI (pw n) ≤ nI (pw n) from nI_le (Nat.le_refl _) (by omega))⟩)
      refine c_dismissN w1.1 tu w3 (fun g c6 d6 _ => ⟨rfl, c6.1, ?_⟩)
      have e6 := fun a (n : 53 < a) => (c6.2.2 a (by omega)).1
      refine hq g (grF_t w1 (grF_e c6)) (tmO_n c6 w2) d6 (fun j n1 => by rw [e6 62 (by omega)]; exact w7 j n1) ?_ ?_
      · unfold woK at w6 ⊢
        simp only [e6 70 (by omega)]
        exact w6
      · unfold woR at w8 ⊢
        simp only [e6 62 (by omega), e6 69 (by omega)]
        exact w8
    | succ q ih =>
      intro r u N hr w
      have w' := w
      obtain ⟨w1, w2, w3, w4, w5, w6, w7, w8⟩ := w'
      have hr2 : r < pw n := by omega
      have tu : cTw A u := cTw_fr (fun a ha => (w1.2.2.1 a (by omega) (fun y => by unfold Pwo at y; omega)).1) t
      obtain ⟨W, eW⟩ : ∃ W, W = (woF A k m c n r).1 := ⟨_, rfl⟩
      have Wle := (woF_le (A := A) (k := k) (m := m) (c := c) (n := n) r).1
      have Wge := woF_ge (A := A) (k := k) (c := c) (n := n) h10 hm r
      rw [← eW] at Wle Wge
      rw [← eb] at Wge
      have nx : ∀ (v : ah_T) (N' : Nd), woS A g0 k m c n (r + 1) N' h v → Wp mX1_findWorst Q 0 0 270 [some (.ref 62), some (.int (nI k)), some (.int (nI m)), some (.int (nI c)), some (.int (nI n)), some (.int (nI before)), some (.int (nI (pw n))), some (.int (nI r)), none, none, none] [] v := by
        intro v N' wv
        refine T_X1_findWorst_270 wv.1.1 _ _ _ _ _ _ _ ?_
        rw [nI_1]
        exact ih (r + 1) v N' (by omega) wv
      refine T_X1_findWorst_143 w1.1 _ _ _ _ _ _ _ ?_
      (first | refine ⟨fun _ => ?_, fun n_ => absurd (show ¬ nI (pw n) ≤ nI r from nI_ge (by omega) (by omega)) n_⟩ | refine ⟨fun n_ => absurd (show ¬ nI (pw n) ≤ nI r from nI_ge (by omega) (by omega)) n_, fun _ => ?_⟩ | refine ⟨fun y_ => absurd y_ (show ¬ nI (pw n) ≤ nI r from nI_ge (by omega) (by omega)), fun _ => ?_⟩ | refine ⟨fun _ => ?_, fun y_ => absurd y_ (show ¬ nI (pw n) ≤ nI r from nI_ge (by omega) (by omega))⟩)
      have nbu : nbO (Ew A noS) u 30 := fun x hx i hi => by rw [(w1.2.2.1 30 (by omega) (by unfold Pwo; omega)).1]; exact nb x hx i hi
      refine c_layTrial w1.1 nbu hc hm hn hr2 rfl rfl rfl rfl (fun v s2 x2 f2 p2 => ⟨_, rfl, s2, ?_⟩)
      have f2' : grF Pwo u v := ⟨s2, x2, fun a _ n1 => f2 a (fun z => n1 (by rw [z]; exact .inr (.inr (.inr rfl)))), wB_of (f2 27 (by decide)).1⟩
      have same : ∀ (r' : Nat), woF A k m c n r' = woF A k m c n r → ∀ v', (∀ a, a = 62 ∨ a = 69 → ∀ j, ah_i v' a j = ah_i u a j) → woR A k m c n r' v' := by
        intro r' e v' ev
        unfold woR at w8 ⊢
        rw [e, ev 62 (.inl rfl)]
        simp only [ev 69 (.inr rfl)]
        exact w8
      rw [bI_0]
      refine ⟨fun y => ?_, fun y => ?_⟩
      rotate_left
      · have e : woF A k m c n (r + 1) = woF A k m c n r := by rw [woF_s, if_neg (fun z => by rw [y] at z; exact absurd z.1 (by decide))]
        exact nx v N (woS_x w f2' (fun a n1 n2 n3 => f2 a n3) (fun j _ => (f2 62 (by decide)).1 j) (same _ e v (fun a ha => (f2 a (by omega)).1)))
      have ok : okS A c n r n = true := by cases z : okS A c n r n; exact absurd z y; rfl
      have wv := woS_x (r' := r) w f2' (fun a n1 n2 n3 => f2 a n3) (fun j _ => (f2 62 (by decide)).1 j) (same _ rfl v (fun a ha => (f2 a (by omega)).1))
      obtain ⟨v1, v2, v3, v4, v5, v6, v7, v8⟩ := wv
      have tv : cTw A v := cTw_fr (fun a ha => (v1.2.2.1 a (by omega) (fun y => by unfold Pwo at y; omega)).1) t
      refine c_carry s2 tv v3 rfl hk v4 (.inr rfl) (fun j hj => ⟨p2 ok j hj, goP_le hc j⟩) (fun a3 c3 d3 k3 k3' => ⟨rfl, c3.1, ?_⟩)
      refine c_recall c3.1 (show cKp (ndC A k (goP m c n r)) (nSt A (nd0 A) m) a3 from cKp_fr (k3 53 (by decide) (by decide) (by decide)) v5) (by show A 246 ≤ 10; exact h10) (fun a4 c4 n4 kp4 k4 k4' => ⟨rfl, c4.1, ?_⟩)
      have d4 : cND A (ndC A k (goP m c n r)) 0 a4 := cND_fr (fun a ha => k4 a (by omega) (by omega) (by omega)) (fun j hj => k4' j (by omega) (by omega) (by omega)) d3
      have eN : nSt A (ndC A k (goP m c n r)) m = nSt A (nd0 A) m := nSt_C (fun x hx => goP_0 hx) m (Nat.le_refl _)
      have rn : cRn g0 A (ndC A k (goP m c n r)) 0 m a4 := by
        refine ⟨fun _ => false, ⟨cTw_n c4 (cTw_n c3 tv), tmO_n c4 (tmO_n c3 v2), d4, by rw [eN]; exact n4⟩, ?_⟩
        cases m with
        | zero => exact .inl ⟨rfl, fun l hl z => by have z2 : (false && decide (l + 1 = A 246)) = true := z; rw [Bool.false_and] at z2; exact absurd z2 (by decide)⟩
        | succ m' => rw [nSt_s]; exact qi_next m' _
      have e34 : ∀ a, 53 < a → ∀ j, ah_i a4 a j = ah_i v a j := fun a ha j => by rw [(c4.2.2 a (by omega)).1, (c3.2.2 a (by omega)).1]
      have i4 : ah_i a4 62 4 = nI W := by rw [e34 62 (by omega), v8.1, eW]
      rw [i4]
      have eC : ct (litM A (ndC A k (goP m c n r))) (A 246) m = before := by rw [ct_C (fun x hx => goP_0 hx), eb]
      refine c_litFrom c4.1 rn (m0 := m) (till := 120) (bound := W - before) rfl rfl (nI_sub Wge) (by omega) (by omega) (by omega) (fun a5 x hx1 hx2 o f5 k5 rn5 => ⟨_, rfl, f5.1, ?_⟩)
      change (x = 120 ∨ W - before ≤ ct (litM A (ndC A k (goP m c n r))) (A 246) x - ct (litM A (ndC A k (goP m c n r))) (A 246) m) at o
      change ((ah_i a5 62 4 ≤ nI before + nI (ct (litM A (ndC A k (goP m c n r))) (A 246) x - ct (litM A (ndC A k (goP m c n r))) (A 246) m) → _) ∧ (¬ ah_i a5 62 4 ≤ nI before + nI (ct (litM A (ndC A k (goP m c n r))) (A 246) x - ct (litM A (ndC A k (goP m c n r))) (A 246) m) → ∀ h50, h50 = ah_si a5 62 4 (nI before + nI (ct (litM A (ndC A k (goP m c n r))) (A 246) x - ct (litM A (ndC A k (goP m c n r))) (A 246) m)) → _))
      have mo := ct_mono (litM A (ndC A k (goP m c n r))) (A 246) hx1
      have mo2 := ct_mono (litM A (ndC A k (goP m c n r))) (A 246) (show x ≤ 120 from hx2)
      have eT : wT A k m c n r = ct (litM A (ndC A k (goP m c n r))) (A 246) 120 := rfl
      have Tle := wT_le (k := k) (m := m) (c := c) (n := n) (r := r) h10
      rw [eC] at o mo ⊢
      obtain ⟨F, eF⟩ : ∃ F, F = ct (litM A (ndC A k (goP m c n r))) (A 246) x := ⟨_, rfl⟩
      rw [← eF] at o mo mo2 ⊢
      rw [nI_add, show before + (F - before) = F by omega]
      obtain ⟨t5, tm5, d5⟩ := cRn_c rn5
      have f34 := grF_t (grF_e (P := Pwo) c3) (grF_e c4)
      have f5' := grF_t f34 (grF_y (P := Pwo) f5)
      have e5 : ∀ a, 53 < a → ∀ j, ah_i a5 a j = ah_i v a j := fun a ha j => by rw [(f5.2.2.1 a (by omega)).1, e34 a ha]
      have wS5 : woS A g0 k m c n r (ndC A k (goP m c n r)) h a5 := by
        refine ⟨grF_t v1 f5', tm5, d5, rfl, cKp_fr (k5.1 53 (by omega)) kp4, ?_, fun j n1 => by rw [e5 62 (by omega)]; exact v7 j n1, ?_⟩
        · unfold woK at v6 ⊢
          simp only [e5 70 (by omega)]
          exact v6
        · unfold woR at v8 ⊢
          simp only [e5 62 (by omega), e5 69 (by omega)]
          exact v8
      rw [e5 62 (by omega), v8.1, ← eW]
      by_cases z : W ≤ F
      · (first | refine ⟨fun _ => ?_, fun n_ => absurd (show nI W ≤ nI F from nI_le z (by omega)) n_⟩ | refine ⟨fun n_ => absurd (show nI W ≤ nI F from nI_le z (by omega)) n_, fun _ => ?_⟩ | refine ⟨fun y_ => absurd y_ (show nI W ≤ nI F from nI_le z (by omega)), fun _ => ?_⟩ | refine ⟨fun _ => ?_, fun y_ => absurd y_ (show nI W ≤ nI F from nI_le z (by omega))⟩)
        have e : woF A k m c n (r + 1) = woF A k m c n r := by rw [woF_s, if_neg (fun y => by omega)]
        refine nx a5 _ (woS_x wS5 (grF_r f5.1) (fun _ _ _ _ => eqc_rfl) (fun _ _ => rfl) ?_)
        have := wS5.2.2.2.2.2.2.2
        unfold woR at this ⊢
        rw [e]
        exact this
      · (first | refine ⟨fun _ => ?_, fun n_ => absurd (show ¬ nI W ≤ nI F from nI_ge (by omega) (by omega)) n_⟩ | refine ⟨fun n_ => absurd (show ¬ nI W ≤ nI F from nI_ge (by omega) (by omega)) n_, fun _ => ?_⟩ | refine ⟨fun y_ => absurd y_ (show ¬ nI W ≤ nI F from nI_ge (by omega) (by omega)), fun _ => ?_⟩ | refine ⟨fun _ => ?_, fun y_ => absurd y_ (show ¬ nI W ≤ nI F from nI_ge (by omega) (by omega))⟩)
        intro h50 q50
        have x120 : x = 120 := by omega
        subst x120
        have e : woF A k m c n (r + 1) = (wT A k m c n r, r) := by rw [woF_s, if_pos ⟨ok, by omega⟩]
        have s50 : Sh h50 := by rw [q50]; exact sh_si f5.1
        have f50 : grF Pwo a5 h50 := by rw [q50]; exact grF_s (.inl rfl) (by omega) (grF_r f5.1)
        have i50 : ah_i h50 62 4 = nI F := by rw [q50, ah_i_ss]
        -- the row
        have lr : ∀ (q2 i : Nat) (v : ah_T), i + q2 = n → grF Pwo a5 v → (∀ a, a ≠ 62 → a ≠ 69 → a ≠ 71 → eqc a5 v a) → (∀ j, j ≠ 4 → ah_i v 62 j = ah_i a5 62 j) → ah_i v 62 4 = nI F → (∀ y, y < i → ah_i v 69 y = nI (dg n r y)) → Wp mX1_findWorst Q 0 0 226 [some (.ref 62), some (.int (nI k)), some (.int (nI m)), some (.int (nI c)), some (.int (nI n)), some (.int (nI before)), some (.int (nI (pw n))), some (.int (nI r)), none, some (.int (nI (pw (n - i)))), some (.int (nI i))] [] v := by
          intro q2
          induction q2 with
          | zero =>
            intro i v hi fv ev e62 ei ro
            have e9 : i = n := by omega
            subst e9
            refine T_X1_findWorst_226 fv.1 _ _ _ _ _ _ _ _ _ ?_
            (first | refine ⟨fun _ => ?_, fun n_ => absurd (show nI i ≤ nI i from nI_le (Nat.le_refl _) (by omega)) n_⟩ | refine ⟨fun n_ => absurd (show nI i ≤ nI i from nI_le (Nat.le_refl _) (by omega)) n_, fun _ => ?_⟩ | refine ⟨fun y_ => absurd y_ (show nI i ≤ nI i from nI_le (Nat.le_refl _) (by omega)), fun _ => ?_⟩ | refine ⟨fun _ => ?_, fun y_ => absurd y_ (show nI i ≤ nI i from nI_le (Nat.le_refl _) (by omega))⟩)
            refine nx v _ (woS_x wS5 fv ev e62 ?_)
            unfold woR
            rw [e]
            exact ⟨by show _ = nI (wT A k m c i r); rw [ei, eF, eT], fun _ => ro⟩
          | succ q2 ih2 =>
            intro i v hi fv ev e62 ei ro
            have hi3 : i < 3 := by omega
            have pd : pw (n - i) / 12 = pw (n - (i + 1)) := by rw [show n - i = (n - (i + 1)) + 1 by omega, pw_d]
            have p1 := pw_le (show n - i ≤ 3 by omega)
            have p2 := pw_le (show n - (i + 1) ≤ 3 by omega)
            refine T_X1_findWorst_226 fv.1 _ _ _ _ _ _ _ _ _ ?_
            rw [show (12 : Int32) = nI 12 from rfl, nI_divI (show pw (n - i) < 2 ^ 31 by omega) (by omega), pd, nI_divI (show r < 2 ^ 31 by omega) (by omega), nI_remI (by have := Nat.div_le_self r (pw (n - (i + 1))); omega) (by omega), nI_1, nI_clamp (show i < 2 ^ 31 by omega), sh_n fv.1 69 3 (by decide) (by decide) rfl]
            (first | refine ⟨fun _ => ?_, fun n_ => absurd (show ¬ nI n ≤ nI i from nI_ge (by omega) (by omega)) n_⟩ | refine ⟨fun n_ => absurd (show ¬ nI n ≤ nI i from nI_ge (by omega) (by omega)) n_, fun _ => ?_⟩ | refine ⟨fun y_ => absurd y_ (show ¬ nI n ≤ nI i from nI_ge (by omega) (by omega)), fun _ => ?_⟩ | refine ⟨fun _ => ?_, fun y_ => absurd y_ (show ¬ nI n ≤ nI i from nI_ge (by omega) (by omega))⟩)
            have nz : ¬ nI (pw (n - (i + 1))) = 0 := by
              rw [show (0 : Int32) = nI 0 from rfl, nI_eq (by omega) (by omega)]
              omega
            (first | refine ⟨fun _ => ?_, fun n_ => absurd (nz) n_⟩ | refine ⟨fun n_ => absurd (nz) n_, fun _ => ?_⟩ | refine ⟨fun y_ => absurd y_ (nz), fun _ => ?_⟩ | refine ⟨fun _ => ?_, fun y_ => absurd y_ (nz)⟩)
            refine ⟨nz, (vp_nI (by omega)).mpr hi3, ?_⟩
            rintro h57 rfl
            refine ih2 (i + 1) _ (by omega) (grF_s (.inr (.inl rfl)) (by omega) fv) (fun a n1 n2 n3 => eqc_si (ev a n1 n2 n3) n2) (fun j n1 => by rw [ah_i_sn (by omega)]; exact e62 j n1) (by rw [ah_i_sn (by omega)]; exact ei) (fun y hy => ?_)
            by_cases w : y = i
            · rw [w, ah_i_ss]
              unfold dg
              rw [show n - 1 - i = n - (i + 1) by omega]
            · rw [ah_i_sn (by omega)]
              exact ro y (by omega)
        have := lr n 0 h50 (by omega) f50 (fun a n1 n2 n3 => by rw [q50]; exact eqc_si eqc_rfl n1) (fun j n1 => by rw [q50, ah_i_sn (by omega)]) i50 (fun y hy => absurd hy (by omega))
        rw [Nat.sub_zero] at this
        exact this
  -- asked anew
  have anew : Wp mX1_findWorst Q 0 0 42 [some (.ref 62), some (.int (nI k)), some (.int (nI m)), some (.int (nI c)), some (.int (nI n)), none, none, none, none, none, none] [] h := by
    refine T_X1_findWorst_42 hs _ _ _ _ ?_
    rw [z0, z1, z2, z3]
    intro h5 q5 h8 q8 h11 q11 h14 q14 h17 q17
    have f17 : grF Pwo h h17 := by
      rw [q17, q14, q11, q8, q5]
      exact grF_s (.inl rfl) (by omega) (grF_s (.inr (.inr (.inl rfl))) (by omega) (grF_s (.inr (.inr (.inl rfl))) (by omega) (grF_s (.inr (.inr (.inl rfl))) (by omega) (grF_s (.inr (.inr (.inl rfl))) (by omega) (grF_r hs)))))
    have e17 : ∀ a, a ≠ 62 → a ≠ 70 → eqc h h17 a := fun a n1 n2 => by rw [q17, q14, q11, q8, q5]; exact eqc_si (eqc_si (eqc_si (eqc_si (eqc_si eqc_rfl n2) n2) n2) n2) n1
    have k17 : woK k m c n h17 := by
      rw [q17, q14, q11, q8, q5]
      refine ⟨?_, ?_, ?_, ?_⟩
      · rw [ah_i_sn (by omega), ah_i_sn (by omega), ah_i_sn (by omega), ah_i_sn (by omega), ah_i_ss]
      · rw [ah_i_sn (by omega), ah_i_sn (by omega), ah_i_sn (by omega), ah_i_ss]
      · rw [ah_i_sn (by omega), ah_i_sn (by omega), ah_i_ss]
      · rw [ah_i_sn (by omega), ah_i_ss]
    have i17 : ah_i h17 62 4 = nI 1201 := by rw [q17, ah_i_ss]; rfl
    have e62 : ∀ j, j ≠ 4 → ah_i h17 62 j = ah_i h 62 j := fun j n1 => by rw [q17, ah_i_sn (by omega), q14, ah_i_sn (by omega), q11, ah_i_sn (by omega), q8, ah_i_sn (by omega), q5, ah_i_sn (by omega)]
    have t17 : cTw A h17 := cTw_fr (fun a ha => (e17 a (by omega) (by omega)).1) t
    have tm17 : tmN g0 A h17 := tmO_g (fun a ha => e17 a (by omega) (by omega)) f17.2.1 tm
    have d17 : cND A (nd0 A) 0 h17 := cND_fr (fun a ha => (e17 a (by omega) (by omega)).1) (fun j _ => (e17 43 (by decide) (by decide)).1 j) d
    refine c_begin f17.1 t17 tm17 d17 (fun g1 c1 rn _ => ⟨rfl, c1.1, ?_⟩)
    refine c_litFrom c1.1 rn (m0 := 0) (till := m) (bound := 1201) rfl rfl rfl (by omega) (by omega) (by omega) (fun g2 x hx1 hx2 o f2 k2 rn2 => ⟨_, rfl, f2.1, ?_⟩)
    have xm : x = m := by
      rcases o with o | o
      · exact o
      · have a := ct_le (litM A (nd0 A)) (nd0 A).n x
        have b : x * (nd0 A).n ≤ 120 * 10 := Nat.mul_le_mul (by omega) h10
        omega
    subst xm
    rw [show ct (litM A (nd0 A)) (nd0 A).n x - ct (litM A (nd0 A)) (nd0 A).n 0 = before by rw [eb]; rfl]
    have rn2' := rn2
    obtain ⟨fr, ⟨al1, al2, al3, al4⟩, _⟩ := rn2'
    refine c_keep f2.1 al4 h10 (fun g3 c3 kp k53 => ⟨rfl, c3.1, ?_⟩)
    have d3 : cND A (nd0 A) 0 g3 ∧ ceN g2 g3 := ⟨?_, c3⟩
    rotate_left
    · exact cND_fr (fun a ha => k53 a (by omega)) (fun j _ => k53 43 (by omega) j) al3
    have e3 : ∀ a, 53 < a → ∀ j, ah_i g3 a j = ah_i h17 a j := fun a ha j => by rw [(c3.2.2 a (by omega)).1, (f2.2.2.1 a (by omega)).1, (c1.2.2 a (by omega)).1]
    have st : woS A g0 k x c n 0 (nd0 A) h g3 := by
      refine ⟨grF_t f17 (grF_t (grF_e c1) (grF_t (grF_y f2) (grF_e c3))), tmO_n c3 al2, d3.1, rfl, kp, ?_, fun j n1 => by rw [e3 62 (by omega)]; exact e62 j n1, by rw [e3 62 (by omega)]; exact i17, fun y => absurd y (by show ¬ 1201 < 1201; omega)⟩
      unfold woK at k17 ⊢
      simp only [e3 70 (by omega)]
      exact k17
    have go := lp (pw n) 0 g3 (nd0 A) (by omega) st
    have cases4 : n = 0 ∨ n = 1 ∨ n = 2 ∨ n = 3 := by omega
    rcases cases4 with y | y | y | y
    · subst y
      (first | refine ⟨fun _ => ?_, fun n_ => absurd (show nI 0 = 0 from rfl) n_⟩ | refine ⟨fun n_ => absurd (show nI 0 = 0 from rfl) n_, fun _ => ?_⟩ | refine ⟨fun y_ => absurd y_ (show nI 0 = 0 from rfl), fun _ => ?_⟩ | refine ⟨fun _ => ?_, fun y_ => absurd y_ (show nI 0 = 0 from rfl)⟩)
      exact go
    · subst y
      (first | refine ⟨fun _ => ?_, fun n_ => absurd (show ¬ nI 1 = 0 by decide) n_⟩ | refine ⟨fun n_ => absurd (show ¬ nI 1 = 0 by decide) n_, fun _ => ?_⟩ | refine ⟨fun y_ => absurd y_ (show ¬ nI 1 = 0 by decide), fun _ => ?_⟩ | refine ⟨fun _ => ?_, fun y_ => absurd y_ (show ¬ nI 1 = 0 by decide)⟩)
      (first | refine ⟨fun _ => ?_, fun n_ => absurd (show nI 1 = 1 from rfl) n_⟩ | refine ⟨fun n_ => absurd (show nI 1 = 1 from rfl) n_, fun _ => ?_⟩ | refine ⟨fun y_ => absurd y_ (show nI 1 = 1 from rfl), fun _ => ?_⟩ | refine ⟨fun _ => ?_, fun y_ => absurd y_ (show nI 1 = 1 from rfl)⟩)
      exact go
    · subst y
      (first | refine ⟨fun _ => ?_, fun n_ => absurd (show ¬ nI 2 = 0 by decide) n_⟩ | refine ⟨fun n_ => absurd (show ¬ nI 2 = 0 by decide) n_, fun _ => ?_⟩ | refine ⟨fun y_ => absurd y_ (show ¬ nI 2 = 0 by decide), fun _ => ?_⟩ | refine ⟨fun _ => ?_, fun y_ => absurd y_ (show ¬ nI 2 = 0 by decide)⟩)
      (first | refine ⟨fun _ => ?_, fun n_ => absurd (show ¬ nI 2 = 1 by decide) n_⟩ | refine ⟨fun n_ => absurd (show ¬ nI 2 = 1 by decide) n_, fun _ => ?_⟩ | refine ⟨fun y_ => absurd y_ (show ¬ nI 2 = 1 by decide), fun _ => ?_⟩ | refine ⟨fun _ => ?_, fun y_ => absurd y_ (show ¬ nI 2 = 1 by decide)⟩)
      (first | refine ⟨fun _ => ?_, fun n_ => absurd (show nI 2 = 2 from rfl) n_⟩ | refine ⟨fun n_ => absurd (show nI 2 = 2 from rfl) n_, fun _ => ?_⟩ | refine ⟨fun y_ => absurd y_ (show nI 2 = 2 from rfl), fun _ => ?_⟩ | refine ⟨fun _ => ?_, fun y_ => absurd y_ (show nI 2 = 2 from rfl)⟩)
      exact go
    · subst y
      (first | refine ⟨fun _ => ?_, fun n_ => absurd (show ¬ nI 3 = 0 by decide) n_⟩ | refine ⟨fun n_ => absurd (show ¬ nI 3 = 0 by decide) n_, fun _ => ?_⟩ | refine ⟨fun y_ => absurd y_ (show ¬ nI 3 = 0 by decide), fun _ => ?_⟩ | refine ⟨fun _ => ?_, fun y_ => absurd y_ (show ¬ nI 3 = 0 by decide)⟩)
      (first | refine ⟨fun _ => ?_, fun n_ => absurd (show ¬ nI 3 = 1 by decide) n_⟩ | refine ⟨fun n_ => absurd (show ¬ nI 3 = 1 by decide) n_, fun _ => ?_⟩ | refine ⟨fun y_ => absurd y_ (show ¬ nI 3 = 1 by decide), fun _ => ?_⟩ | refine ⟨fun _ => ?_, fun y_ => absurd y_ (show ¬ nI 3 = 1 by decide)⟩)
      (first | refine ⟨fun _ => ?_, fun n_ => absurd (show ¬ nI 3 = 2 by decide) n_⟩ | refine ⟨fun n_ => absurd (show ¬ nI 3 = 2 by decide) n_, fun _ => ?_⟩ | refine ⟨fun y_ => absurd y_ (show ¬ nI 3 = 2 by decide), fun _ => ?_⟩ | refine ⟨fun _ => ?_, fun y_ => absurd y_ (show ¬ nI 3 = 2 by decide)⟩)
      exact go
  refine T_X1_findWorst hs _ _ _ _ ?_
  rw [z0, z1, z2, z3]
  refine ⟨fun _ => anew, fun y0 => ⟨fun _ => anew, fun y1 => ⟨fun _ => anew, fun y2 => ⟨fun _ => anew, fun y3 => ?_⟩⟩⟩⟩
  rcases wo with w | ⟨k', m', c', n', a1, a2, a3, a4, ⟨b1, b2, b3, b4⟩, b5⟩
  · rw [w] at y0
    exact absurd y0.symm (nI_m1 (by omega))
  · rw [b1, nI_eq (by omega) (by omega)] at y0
    rw [b2, nI_eq (by omega) (by omega)] at y1
    rw [b3, nI_eq (by omega) (by omega)] at y2
    rw [b4, nI_eq (by omega) (by omega)] at y3
    subst y0 y1 y2 y3
    exact hq h (grF_r hs) tm d (fun _ _ => rfl) ⟨b1, b2, b3, b4⟩ b5
end WR2
