/-! ===== changes on both sides ===== -/
section CG
variable {KX : ah_T → Prop} {RX WX SX : (Nat → Nat) → ah_T → Prop} {A : Nat → Nat} {N : Nd} {h g h1 : ah_T} {g0 sp n : Nat} {p : Nat → Bool}
noncomputable def cgB (A : Nat → Nat) (x : Nat) : Bool := !(decide (A (61 + 3 * (x / 6)) = x % 6)) && soB A (ndK A (x / 6) (x % 6)) (A 250)
def cgX (A : Nat → Nat) (h : ah_T) : Prop := ah_i h 62 10 = 0 ∨ fdO (cgB A) (6 * A 246) 65 h
theorem cgX_fr (e : ∀ a j, Ccg a j → ah_i g a j = ah_i h a j) (l : cgX A h) : cgX A g := by
  rcases l with l | l
  · exact .inl (by rw [e 62 10 (.inl ⟨rfl, rfl⟩)]; exact l)
  · exact .inr (fdO_fr (fun j => e 65 j (.inr (.inl rfl))) (fun j => e 66 j (.inr (.inr rfl))) l)
def Pcg (a : Nat) : Prop := a = 62 ∨ a = 65 ∨ a = 66 ∨ a = 72 ∨ a = 73
theorem Pso_cg : ∀ a, Pso a → Pcg a := fun a y => by unfold Pso at y; unfold Pcg; omega
theorem cgB_at {l k : Nat} (hk : k < 6) : cgB A (6 * l + k) = (!(decide (A (61 + 3 * l) = k)) && soB A (ndK A l k) (A 250)) := by
  unfold cgB
  rw [show (6 * l + k) / 6 = l by omega, show (6 * l + k) % 6 = k by omega]
theorem c_findChanges {Q : Option Value → ah_T → Prop} (hs : Sh h) (t : cTw A h) (tm : tmN g0 A h) (d : cND A (nd0 A) 0 h) (so : cSo A h) (kt : ah_i h 65 1 = 1) (st : cgX A h)
    (hq : ∀ g, grF Pcg h g → tmN g0 A g → cND A (nd0 A) 0 g → (∀ j, j ≠ 10 → j ≠ 17 → ah_i g 62 j = ah_i h 62 j) → (∀ j, j < 2 → ah_i g 65 j = ah_i h 65 j) → fdO (cgB A) (6 * A 246) 65 g → Q none g) : Mt mX1_findChanges [.ref 62] h Q := by
  have w10 := t.1.2.2.1.1
  refine T_X1_findChanges hs ?_
  refine ⟨fun z => ?_, fun z => hq h (grF_r hs) tm d (fun _ _ _ => rfl) (fun _ _ => rfl) (st.resolve_left z)⟩
  intro h2 q2 h5 q5
  have f5 : grF Pcg h h5 := by rw [q5, q2]; exact grF_s (.inr (.inl rfl)) (by omega) (grF_s (.inl rfl) (by omega) (grF_r hs))
  have e5 : ∀ a, a ≠ 62 → a ≠ 65 → eqc h h5 a := fun a n1 n2 => by rw [q5, q2]; exact eqc_si (eqc_si eqc_rfl n1) n2
  refine c_gather f5.1 (cSo_fr (fun a ha => (e5 a (by omega) (by omega)).1) so) (by omega) (fun h8 f8 k8 o8 => ⟨rfl, f8.1, ?_⟩)
  have e8 : ∀ a, a ≠ 62 → a ≠ 65 → a ≠ 72 → a ≠ 73 → eqc h h8 a := fun a n1 n2 n3 n4 => eqc_trans (e5 a n1 n2) (f8.2.2 a (fun y => by unfold Pso at y; omega))
  have f58 := grF_t f5 (gsF_gr Pso_cg f8)
  have lp : ∀ (q l : Nat) (u : ah_T), l + q = A 246 → grF Pcg h u → tmN g0 A u → cND A (nd0 A) 0 u → (∀ j, j ≠ 10 → j ≠ 17 → ah_i u 62 j = ah_i h 62 j) → (∀ j, j < 2 → ah_i u 65 j = ah_i h 65 j) → gsO A (A 250) u → fdO (cgB A) (6 * l) 65 u → Wp mX1_findChanges Q 0 0 27 [some (.ref 62), some (.int (nI l)), none] [] u := by
    intro q
    induction q with
    | zero =>
      intro l u hl f tmu du k62 k65 go fo
      have e9 : l = A 246 := by omega
      subst e9
      have tu : cTw A u := cTw_fr (fun a ha => (f.2.2.1 a (by omega) (fun y => by unfold Pcg at y; omega)).1) t
      refine T_X1_findChanges_27 f.1 _ ?_
      rw [tu.1.2.1]
      (first | refine ⟨fun _ => ?_, fun n_ => absurd (show nI (A 246) ≤ nI (A 246) from nI_le (Nat.le_refl _) (by omega)) n_⟩ | refine ⟨fun n_ => absurd (show nI (A 246) ≤ nI (A 246) from nI_le (Nat.le_refl _) (by omega)) n_, fun _ => ?_⟩ | refine ⟨fun y_ => absurd y_ (show nI (A 246) ≤ nI (A 246) from nI_le (Nat.le_refl _) (by omega)), fun _ => ?_⟩ | refine ⟨fun _ => ?_, fun y_ => absurd y_ (show nI (A 246) ≤ nI (A 246) from nI_le (Nat.le_refl _) (by omega))⟩)
      exact hq u f tmu du k62 k65 fo
    | succ q ih =>
      intro l u hl f tmu du k62 k65 go fo
      have hl2 : l < A 246 := by omega
      have tu : cTw A u := cTw_fr (fun a ha => (f.2.2.1 a (by omega) (fun y => by unfold Pcg at y; omega)).1) t
      refine T_X1_findChanges_27 f.1 _ ?_
      rw [tu.1.2.1]
      (first | refine ⟨fun _ => ?_, fun n_ => absurd (show ¬ nI (A 246) ≤ nI l from nI_ge (by omega) (by omega)) n_⟩ | refine ⟨fun n_ => absurd (show ¬ nI (A 246) ≤ nI l from nI_ge (by omega) (by omega)) n_, fun _ => ?_⟩ | refine ⟨fun y_ => absurd y_ (show ¬ nI (A 246) ≤ nI l from nI_ge (by omega) (by omega)), fun _ => ?_⟩ | refine ⟨fun _ => ?_, fun y_ => absurd y_ (show ¬ nI (A 246) ≤ nI l from nI_ge (by omega) (by omega))⟩)
      -- kinds
      have lk : ∀ (q2 k : Nat) (u : ah_T) (N : Nd) (sp : Nat), k + q2 = 6 → grF Pcg h u → tmN g0 A u → cND A N sp u → N.n = A 246 → N.q = A 248 → (sp = 0 ∨ sp = l + 1) → (∀ j, j ≠ 10 → j ≠ 17 → ah_i u 62 j = ah_i h 62 j) → (∀ j, j < 2 → ah_i u 65 j = ah_i h 65 j) → gsO A (A 250) u → fdO (cgB A) (6 * l + k) 65 u → Wp mX1_findChanges Q 0 0 43 [some (.ref 62), some (.int (nI l)), some (.int (nI k))] [] u := by
        intro q2
        induction q2 with
        | zero =>
          intro k u N sp hk f tmu du nn nq ds k62 k65 go fo
          have e9 : k = 6 := by omega
          subst e9
          have tu : cTw A u := cTw_fr (fun a ha => (f.2.2.1 a (by omega) (fun y => by unfold Pcg at y; omega)).1) t
          refine T_X1_findChanges_43 f.1 _ _ ?_
          (first | refine ⟨fun _ => ?_, fun n_ => absurd (show 6 ≤ nI 6 from nI_le (a := 6) (by omega) (by omega)) n_⟩ | refine ⟨fun n_ => absurd (show 6 ≤ nI 6 from nI_le (a := 6) (by omega) (by omega)) n_, fun _ => ?_⟩ | refine ⟨fun y_ => absurd y_ (show 6 ≤ nI 6 from nI_le (a := 6) (by omega) (by omega)), fun _ => ?_⟩ | refine ⟨fun _ => ?_, fun y_ => absurd y_ (show 6 ≤ nI 6 from nI_le (a := 6) (by omega) (by omega))⟩)
          rw [nI_1]
          refine c_dismissN f.1 tu du (fun g c6 d6 _ => ⟨rfl, c6.1, ?_⟩)
          have e6 := fun a (n : 53 < a) => (c6.2.2 a (by omega)).1
          exact ih (l + 1) g (by omega) (grF_t f (grF_e c6)) (tmO_n c6 tmu) d6 (fun j n1 n2 => by rw [e6 62 (by omega)]; exact k62 j n1 n2) (fun j hj => by rw [e6 65 (by omega)]; exact k65 j hj) (gsO_fr (fun a ha => e6 a (by omega)) (e6 62 (by omega) 17) go) (fdO_fr (e6 65 (by omega)) (e6 66 (by omega)) fo)
        | succ q2 ih2 =>
          intro k u N sp hk f tmu du nn nq ds k62 k65 go fo
          have hk6 : k < 6 := by omega
          have tu : cTw A u := cTw_fr (fun a ha => (f.2.2.1 a (by omega) (fun y => by unfold Pcg at y; omega)).1) t
          refine T_X1_findChanges_43 f.1 _ _ ?_
          (first | refine ⟨fun _ => ?_, fun n_ => absurd (show ¬ 6 ≤ nI k from nI_ge (b := 6) (by omega) (by omega)) n_⟩ | refine ⟨fun n_ => absurd (show ¬ 6 ≤ nI k from nI_ge (b := 6) (by omega) (by omega)) n_, fun _ => ?_⟩ | refine ⟨fun y_ => absurd y_ (show ¬ 6 ≤ nI k from nI_ge (b := 6) (by omega) (by omega)), fun _ => ?_⟩ | refine ⟨fun _ => ?_, fun y_ => absurd y_ (show ¬ 6 ≤ nI k from nI_ge (b := 6) (by omega) (by omega))⟩)
          rw [nI_1]
          refine c_disguise f.1 tu du rfl rfl hl2 hk6 nn ds nq (fun v c1 d1 => ⟨rfl, c1.1, ?_⟩)
          have e1 := fun a (n : 53 < a) => (c1.2.2 a (by omega)).1
          have fv := grF_t f (grF_e c1)
          have k62v : ∀ j, j ≠ 10 → j ≠ 17 → ah_i v 62 j = ah_i h 62 j := fun j n1 n2 => by rw [e1 62 (by omega)]; exact k62 j n1 n2
          have k65v : ∀ j, j < 2 → ah_i v 65 j = ah_i h 65 j := fun j hj => by rw [e1 65 (by omega)]; exact k65 j hj
          have gov := gsO_fr (g := v) (fun a ha => e1 a (by omega)) (e1 62 (by omega) 17) go
          have fov := fdO_fr (g := v) (e1 65 (by omega)) (e1 66 (by omega)) fo
          have hsp : (if k = A (61 + 3 * l) then 0 else l + 1) = 0 ∨ (if k = A (61 + 3 * l) then 0 else l + 1) = l + 1 := by split; exact .inl rfl; exact .inr rfl
          have tv := cTw_n c1 tu
          have own6 := (t.1.2.2.1.2 l hl2).2.1
          refine lm_get c1.1 tv.1 rfl (k := 1) rfl hl2 (by omega) ⟨_, rfl, c1.1, ?_⟩
          rw [show 60 + 3 * l + 1 = 61 + 3 * l by omega, nI_eq (by omega) (by omega)]
          have at6 := cgB_at (A := A) (l := l) hk6
          refine ⟨fun y => ?_, fun y => ?_⟩
          · have no : cgB A (6 * l + k) = false := by rw [at6, decide_eq_true y.symm]; rfl
            exact ih2 (k + 1) v _ _ (by omega) fv (tmO_n c1 tmu) d1 rfl rfl hsp k62v k65v gov (fdO_no no fov)
          · refine c_isSoot c1.1 tv (tmO_n c1 tmu) d1 so.2.2.1 (Nat.le_refl _) gov (fun w f2 t2 tm2 d2 => ⟨_, rfl, f2.1, ?_⟩)
            rw [decide_eq_false (fun z => y z.symm), Bool.not_false, Bool.true_and] at at6
            rw [← at6, bI_0]
            have fw := grF_t fv (grF_y f2)
            have e2 : ∀ a, 53 < a → ∀ j, ah_i w a j = ah_i v a j := fun a n => (f2.2.2.1 a (by omega)).1
            have k62w : ∀ j, j ≠ 10 → j ≠ 17 → ah_i w 62 j = ah_i h 62 j := fun j n1 n2 => by rw [e2 62 (by omega)]; exact k62v j n1 n2
            have k65w : ∀ j, j < 2 → ah_i w 65 j = ah_i h 65 j := fun j hj => by rw [e2 65 (by omega)]; exact k65v j hj
            have gow := gsO_fr (g := w) (fun a ha => e2 a (by omega)) (e2 62 (by omega) 17) gov
            have fow := fdO_fr (g := w) (e2 65 (by omega)) (e2 66 (by omega)) fov
            refine ⟨fun z => ?_, fun z => ?_⟩
            · exact ih2 (k + 1) w _ _ (by omega) fw tm2 d2 rfl rfl hsp k62w k65w gow (fdO_no z fow)
            · have y1 : cgB A (6 * l + k) = true := by cases e : cgB A (6 * l + k); exact absurd e z; rfl
              refine c_list (k := 6 * l + k) f2.1 (.inr rfl) (by rw [if_neg (by omega)]; omega) (by rw [k65w 1 (by omega)]; exact kt) fow (by rw [show (6 : Int32) = nI 6 from rfl, nI_mul, nI_add, Nat.mul_comm]) y1 (fun x ex fx => ⟨rfl, by rw [ex]; exact f2.1, ?_⟩)
              have ee : ∀ a, a ≠ 65 → a ≠ 66 → eqc w x a := fun a n1 n2 => by rw [ex]; exact eqc_si (eqc_si eqc_rfl n2) n1
              refine ih2 (k + 1) x _ _ (by omega) (by rw [ex]; exact grF_s (.inr (.inl rfl)) (by omega) (grF_s (.inr (.inr (.inl rfl))) (by omega) fw)) (tmO_g (fun a ha => ee a (by omega) (by omega)) (by rw [ex]; rfl) tm2) (cND_fr (fun a ha => (ee a (by omega) (by omega)).1) (fun j _ => (ee 43 (by decide) (by decide)).1 j) d2) rfl rfl hsp (fun j n1 n2 => by rw [(ee 62 (by decide) (by decide)).1]; exact k62w j n1 n2) (fun j hj => ?_) (gsO_fr (fun a ha => (ee a (by omega) (by omega)).1) ((ee 62 (by decide) (by decide)).1 17) gow) fx
              rw [ex, ah_i_sn (by omega), ah_i_sn (by omega)]
              exact k65w j hj
      exact lk 6 0 u (nd0 A) 0 (by omega) f tmu du rfl rfl (.inl rfl) k62 k65 go fo
  have tm8 : tmN g0 A h8 := tmO_g (fun a ha => e8 a (by omega) (by omega) (by omega) (by omega)) (by rw [f8.2.1, q5, q2]; rfl) tm
  exact lp (A 246) 0 h8 (by omega) f58 tm8 (cND_fr (fun a ha => (e8 a (by omega) (by omega) (by omega) (by omega)).1) (fun j _ => (e8 43 (by decide) (by decide) (by decide) (by decide)).1 j) d) (fun j n1 n2 => by rw [k8 j n2, q5, q2, ah_i_sn (by omega), ah_i_sn (by omega)]) (fun j hj => by rw [(f8.2.2 65 (by unfold Pso; omega)).1, q5, q2, ah_i_sn (by omega), ah_i_sn (by omega)]) o8 ⟨by rw [(f8.2.2 65 (by unfold Pso; omega)).1, q5, ah_i_ss]; rfl, fun x y => absurd y (by omega)⟩
theorem rel_changed (X : XP KX RX WX) (hW : hWp KX RX) (hS : SXp SX) (K : KRp KX RX) (KT : KTp KX) (W : Wp1 WX cgX Ccg) (b : Int32) : lw_RC (Inv TXm (CCg KX RX WX) (CMg SX) (n + 1)) (Inv TXm (CCg KX RX WX) (CMg SX) n) mX11_changed mX12_changed [.int b] := by
  intro h hI
  obtain ⟨hs, A, p⟩ := pre_of hI
  have p' := p
  obtain ⟨⟨B0, B1, d, D, wf, tn, _⟩, cc, cm⟩ := p'
  have h10 := wf.2.1.1
  have t246 : Int32.toNatClampNeg 246 = 246 := rfl
  refine T_X11_changed hs b ?_
  by_cases hb : -1 ≤ b
  · (first | refine ⟨fun _ => ?_, fun n_ => absurd (hb) n_⟩ | refine ⟨fun n_ => absurd (hb) n_, fun _ => ?_⟩ | refine ⟨fun y_ => absurd y_ (hb), fun _ => ?_⟩ | refine ⟨fun _ => ?_, fun y_ => absurd y_ (hb)⟩)
    refine lk1 hs X hS p (fun h6 g' s6 p6 lk6 pq => ?_)
    have kx := KT _ lk6.2.2.1
    refine c_findChanges s6 lk6.1.1 lk6.1.2.1 lk6.1.2.2.1 (cSo_p p6) kx.2 (W.1 _ _ lk6.2.2.2.2.1) (fun g f t d e62 e65 fo => ⟨rfl, f.1, ?_⟩)
    have e63 : ∀ j, ah_i g 63 j = ah_i h6 63 j := (f.2.2.1 63 (by omega) (by unfold Pcg; omega)).1
    refine c_pick f.1 (.inr rfl) (by rw [if_neg (by omega)]; omega) (by rw [e65 1 (by omega)]; exact kx.2) fo hb (fun v rv => ⟨_, rfl, f.1, ?_⟩)
    have hP : ∀ a, Pcg a → 60 < a ∧ a < 82 := fun a y => by unfold Pcg at y; omega
    have lg := lkO_g K W hP f t d (fun a j w c => by
      by_cases z : a = 62
      · subst z
        exact e62 j (fun y => c (.inl ⟨rfl, y⟩)) (fun y => by unfold wxc Cwk Cst Ccg Cli Cwo Chg Cpc at w; omega)
      · have hp : ¬ Pcg a := by
          rintro (y | y | y | y | y)
          · exact z y
          · exact c (.inr (.inl y))
          · exact c (.inr (.inr y))
          · unfold wxc Cwk Cst Ccg Cli Cwo Chg Cpc at w; omega
          · unfold wxc Cwk Cst Ccg Cli Cwo Chg Cpc at w; omega
        have hr : 53 < a := by
          unfold wxc Cwk Cst Ccg Cli Cwo Chg Cpc at w
          omega
        exact (f.2.2.1 a (by omega) hp).1 j) (fun j hj => ⟨e63 j, e65 j hj⟩) (.inr fo) lk6
    have pg := pq g (loF_gr hP f) lg
    refine ⟨_, rfl, f.1, T_X12_changed f.1 _ ?_⟩
    (first | refine ⟨fun _ => ?_, fun n_ => absurd (hb) n_⟩ | refine ⟨fun n_ => absurd (hb) n_, fun _ => ?_⟩ | refine ⟨fun y_ => absurd y_ (hb), fun _ => ?_⟩ | refine ⟨fun _ => ?_, fun y_ => absurd y_ (hb)⟩)
    have lp : ∀ (q x : Nat) (u : ah_T), x + q = 6 * A 246 → tyO A g u → (∀ y, y < x → cgB A y = true → ¬ nI (cb (cgB A) y) = b) → Wp mX12_changed (ab_qi fun w h2 => v = w ∧ Inv TXm (CCg KX RX WX) (CMg SX) n h2) 0 0 11 [some (.ref 82), some (.int b), some (.int (nI (cb (cgB A) x))), some (.int (nI x))] [] u := by
      intro q
      induction q with
      | zero =>
        intro x u hx ty no
        have e9 : x = 6 * A 246 := by omega
        subst e9
        obtain ⟨r1, r2⟩ := pkR_e (by omega) rv no
        refine T_X12_changed_11 ty.1.1 _ _ _ ?_
        rw [t246, ty.2.1.2.2.1.2.2.1, show (6 : Int32) = nI 6 from rfl, nI_mul]
        (first | refine ⟨fun _ => ?_, fun n_ => absurd (show nI (6 * A 246) ≤ nI (6 * A 246) from nI_le (Nat.le_refl _) (by omega)) n_⟩ | refine ⟨fun n_ => absurd (show nI (6 * A 246) ≤ nI (6 * A 246) from nI_le (Nat.le_refl _) (by omega)) n_, fun _ => ?_⟩ | refine ⟨fun y_ => absurd y_ (show nI (6 * A 246) ≤ nI (6 * A 246) from nI_le (Nat.le_refl _) (by omega)), fun _ => ?_⟩ | refine ⟨fun _ => ?_, fun y_ => absurd y_ (show nI (6 * A 246) ≤ nI (6 * A 246) from nI_le (Nat.le_refl _) (by omega))⟩)
        exact ⟨fun y => ⟨_, rfl, r2 y, inv_to X hW hS pg ty⟩, fun y => ⟨_, rfl, r1 y, inv_to X hW hS pg ty⟩⟩
      | succ q ih =>
        intro x u hx ty no
        have hx2 : x < 6 * A 246 := by omega
        have xl : x / 6 < A 246 := by omega
        have wl := ty.2.1.2.2.1.2.2.2.1
        have own6 := (wl.2 (x / 6) xl).2.1
        have i61 : ah_i u 84 (61 + 3 * (x / 6)) = nI (A (61 + 3 * (x / 6))) := by
          have := ty.2.1.2.2.1.2.2.2.2.1 (3 * (x / 6) + 1) (by omega)
          rw [show 60 + (3 * (x / 6) + 1) = 61 + 3 * (x / 6) by omega] at this
          exact this
        have e61 : (60 : Int32) + 3 * nI (x / 6) + 1 = nI (61 + 3 * (x / 6)) := by rw [show (60 : Int32) = nI 60 from rfl, show (3 : Int32) = nI 3 from rfl, nI_mul, nI_add, nI_1, show 60 + 3 * (x / 6) + 1 = 61 + 3 * (x / 6) by omega]
        refine T_X12_changed_11 ty.1.1 _ _ _ ?_
        rw [t246, ty.2.1.2.2.1.2.2.1, show (6 : Int32) = nI 6 from rfl, nI_mul, nI_remI (by omega) (by omega), nI_divI (by omega) (by omega), nI_1, nI_1]
        (first | refine ⟨fun _ => ?_, fun n_ => absurd (show ¬ nI (6 * A 246) ≤ nI x from nI_ge (by omega) (by omega)) n_⟩ | refine ⟨fun n_ => absurd (show ¬ nI (6 * A 246) ≤ nI x from nI_ge (by omega) (by omega)) n_, fun _ => ?_⟩ | refine ⟨fun y_ => absurd y_ (show ¬ nI (6 * A 246) ≤ nI x from nI_ge (by omega) (by omega)), fun _ => ?_⟩ | refine ⟨fun _ => ?_, fun y_ => absurd y_ (show ¬ nI (6 * A 246) ≤ nI x from nI_ge (by omega) (by omega))⟩)
        rw [e61, nI_clamp (show 61 + 3 * (x / 6) < 2 ^ 31 by omega), nI_clamp (show x / 6 < 2 ^ 31 by omega), i61, sh_n ty.1.1 84 5860 (by decide) (by decide) rfl, nI_eq (show A (61 + 3 * (x / 6)) < 2 ^ 31 by omega) (show x % 6 < 2 ^ 31 by omega)]
        have eB : cgB A x = (!(decide (A (61 + 3 * (x / 6)) = x % 6)) && soB A (ndK A (x / 6) (x % 6)) (A 250)) := rfl
        have skip : ∀ u', tyO A g u' → cgB A x = false → Wp mX12_changed (ab_qi fun w h2 => v = w ∧ Inv TXm (CCg KX RX WX) (CMg SX) n h2) 0 0 11 [some (.ref 82), some (.int b), some (.int (nI (cb (cgB A) x))), some (.int (nI (x + 1)))] [] u' := by
          intro u' ty' y
          have nx := ih (x + 1) u' (by omega) ty' (fun j hj pj => by
            by_cases w : j = x
            · subst w; rw [y] at pj; exact absurd pj (by decide)
            · exact no j (by omega) pj)
          rw [cb_s0 y] at nx
          exact nx
        refine ⟨(vp_nI (by omega)).mpr (by omega), fun z => ?_, fun z => skip u ty (by rw [eB, decide_eq_true z]; rfl)⟩
        refine m_looks ty.1.1 ty.2.1.2.2.1 (fun g1 f1 d1 => ⟨rfl, f1.1, ?_⟩)
        rw [sh_n f1.1 101 10 (by decide) (by decide) rfl]
        refine ⟨(vp_nI (by omega)).mpr (by omega), ?_⟩
        rintro h10 rfl
        have f2 := lkF_s (a := 101) (j := x / 6) (x := nI (x % 6)) (by omega) f1
        have b2 : mBa A (ndK A (x / 6) (x % 6)) _ := mBa_l f2 (mND_K xl (by omega) d1) (Nat.le_refl _) ty.2.1
        refine m_tries f2.1 b2 (by show A 246 ≤ A 246 + 1; omega) (fun g3 M f3 b3 hM t3 k7 k8 o e49' ej => ⟨rfl, f3.1, ?_⟩)
        have eM : M = 120 := by
          rcases o with o | o
          · exact o
          · exact absurd rfl o.1
        subst eM
        have ly := lyF_t (lyF_l f2) f3
        have md := mdF_t ty.1 (mdF_ly ly)
        have ty3 : tyO A g g3 := ⟨md, mQ_b ly b3 ty.2.1, .inl e49'⟩
        refine m_areSo f3.1 t3 (mSo_fr (fun j => (md.2.2.1 84 (by omega)).1 j) (mSo_p pg)) (Nat.le_refl _) (by show A 246 ≤ 10; omega) ⟨_, rfl, f3.1, ?_⟩
        rw [decide_eq_false z, Bool.not_false, Bool.true_and] at eB
        rw [← eB, bI_0]
        refine ⟨fun y => ⟨fun w => ?_, fun w => ?_⟩, fun y => skip g3 ty3 y⟩
        · have y1 : cgB A x = true := by cases e : cgB A x; exact absurd e y; rfl
          have nx := ih (x + 1) g3 (by omega) ty3 (fun j hj pj => by
            by_cases w2 : j = x
            · subst w2; exact w
            · exact no j (by omega) pj)
          rw [cb_s1 y1] at nx
          exact nx
        · have y1 : cgB A x = true := by cases e : cgB A x; exact absurd e y; rfl
          exact ⟨_, rfl, pkR_k (by omega) rv hx2 y1 w, inv_to X hW hS pg ty3⟩
    exact lp (6 * A 246) 0 g (by omega) (tyO_0 f.1 pg) (fun x y => absurd y (by omega))
  · (first | refine ⟨fun _ => ?_, fun n_ => absurd (hb) n_⟩ | refine ⟨fun n_ => absurd (hb) n_, fun _ => ?_⟩ | refine ⟨fun y_ => absurd y_ (hb), fun _ => ?_⟩ | refine ⟨fun _ => ?_, fun y_ => absurd y_ (hb)⟩)
    refine ⟨_, rfl, hs, T_X12_changed hs _ ?_⟩
    (first | refine ⟨fun _ => ?_, fun n_ => absurd (hb) n_⟩ | refine ⟨fun n_ => absurd (hb) n_, fun _ => ?_⟩ | refine ⟨fun y_ => absurd y_ (hb), fun _ => ?_⟩ | refine ⟨fun _ => ?_, fun y_ => absurd y_ (hb)⟩)
    exact ⟨_, rfl, rfl, inv_less hs p⟩
end CG
