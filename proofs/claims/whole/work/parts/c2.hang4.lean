/-! ===== to hang: the class finds ===== -/
section HH
variable {KX : ah_T → Prop} {RX WX SX : (Nat → Nat) → ah_T → Prop} {A : Nat → Nat} {h g u : ah_T} {s k w m r i j a b n c g0 : Nat}
theorem wgO_fr (e : ∀ a, (a = 77 ∨ a = 78) → ∀ j, ah_i g a j = ah_i h a j) (q : wgO A s k m h) : wgO A s k m g := ⟨fun it h1 h2 i hi => by rw [e 77 (by omega)]; exact q.1 it h1 h2 i hi, fun it ot h1 h2 => by rw [e 78 (by omega)]; exact q.2 it ot h1 h2⟩
theorem hgK_fr (e : ∀ j, ah_i g 76 j = ah_i h 76 j) (q : hgK s k w m h) : hgK s k w m g := by
  unfold hgK at q ⊢
  simp only [e]
  exact q
theorem c_findHang {Q : Option Value → ah_T → Prop} {x1 x2 x3 x4 : Int32} (hs : Sh h) (cc : cor g0 A h) (hx : hgX A h) (V : hgV s k w m) (e1 : x1 = nI s) (e2 : x2 = nI k) (e3 : x3 = nI w) (e4 : x4 = nI m) (hq : ∀ g, hgF h g → cor g0 A g → hgK s k w m g → hgR A s k w m (hC k ^ hN s) g → Q none g) : Mt mX4_findHanging [.ref 74, .int x1, .int x2, .int x3, .int x4] h Q := by
  subst e1 e2 e3 e4
  have V' := V
  obtain ⟨v1, v2, v3, v4, v5, v6, v7, v8⟩ := V'
  have z0 : Int32.toNatClampNeg 0 = 0 := rfl
  have z1 : Int32.toNatClampNeg 1 = 1 := rfl
  have z2 : Int32.toNatClampNeg 2 = 2 := rfl
  have z3 : Int32.toNatClampNeg 3 = 3 := rfl
  have ec := hC_e k
  have np := hN_pos v1 (by omega)
  have kp := hN_pos v4 (by omega)
  have cp : 0 < hC k := by omega
  have pN := pw_46 (c := hC k) (n := hN s) (by omega) v3
  have n75 : ∀ {u : ah_T}, Sh u → ah_n u 75 = 6 := fun hs => sh_n hs 75 6 (by decide) (by decide) rfl
  have c0 : ¬ nI (hC k) = 0 := by rw [n_0, nI_eq (by omega) (by omega)]; omega
  -- rows
  have l144 : ∀ (q r : Nat) (u : ah_T), r + q = hC k ^ hN s → hgF h u → cor g0 A u → hgK s k w m u → wgO A s k m u → hgR A s k w m r u → Wp mX4_findHanging Q 0 0 144 [some (.ref 74), none, some (.int (nI k)), some (.int (nI w)), none, some (.int (nI (hN s))), some (.int (nI (hC k))), some (.int (nI (hC k ^ hN s))), some (.int (nI r)), none, none, none, none] [] u := by
    intro q
    induction q with
    | zero =>
      intro r u hr fu cu ku wu ru
      have e9 : r = hC k ^ hN s := by omega
      refine T_X4_findHanging_144 fu.1 _ _ _ _ _ _ ?_
      rw [e9]
      (first | refine ⟨fun _ => ?_, fun n_ => absurd (show nI (hC k ^ hN s) ≤ nI (hC k ^ hN s) from nI_le (Nat.le_refl _) (by omega)) n_⟩ | refine ⟨fun n_ => absurd (show nI (hC k ^ hN s) ≤ nI (hC k ^ hN s) from nI_le (Nat.le_refl _) (by omega)) n_, fun _ => ?_⟩ | refine ⟨fun y_ => absurd y_ (show nI (hC k ^ hN s) ≤ nI (hC k ^ hN s) from nI_le (Nat.le_refl _) (by omega)), fun _ => ?_⟩ | refine ⟨fun _ => ?_, fun y_ => absurd y_ (show nI (hC k ^ hN s) ≤ nI (hC k ^ hN s) from nI_le (Nat.le_refl _) (by omega))⟩)
      rw [e9] at ru
      exact hq u fu cu ku ru
    | succ q ih =>
      intro r u hr fu cu ku wu ru
      have hlt : r < hC k ^ hN s := by omega
      obtain ⟨f1, f2, f3⟩ := hF_in A s k w m r
      obtain ⟨r1, r2, r3⟩ := ru
      have cl := hcn_le s k r
      have nx : ∀ (u' : ah_T), hgF h u' → cor g0 A u' → hgK s k w m u' → wgO A s k m u' → hgR A s k w m (r + 1) u' → Wp mX4_findHanging Q 0 0 286 [some (.ref 74), none, some (.int (nI k)), some (.int (nI w)), none, some (.int (nI (hN s))), some (.int (nI (hC k))), some (.int (nI (hC k ^ hN s))), some (.int (nI r)), none, none, none, none] [] u' := by
        intro u' a1 a2 a3 a4 a5
        refine T_X4_findHanging_286 a1.1 _ _ _ _ _ _ ?_
        rw [nI_1]
        exact ih (r + 1) u' (by omega) a1 a2 a3 a4 a5
      refine T_X4_findHanging_144 fu.1 _ _ _ _ _ _ ?_
      (first | refine ⟨fun _ => ?_, fun n_ => absurd (show ¬ nI (hC k ^ hN s) ≤ nI r from nI_ge hlt (by omega)) n_⟩ | refine ⟨fun n_ => absurd (show ¬ nI (hC k ^ hN s) ≤ nI r from nI_ge hlt (by omega)) n_, fun _ => ?_⟩ | refine ⟨fun y_ => absurd y_ (show ¬ nI (hC k ^ hN s) ≤ nI r from nI_ge hlt (by omega)), fun _ => ?_⟩ | refine ⟨fun _ => ?_, fun y_ => absurd y_ (show ¬ nI (hC k ^ hN s) ≤ nI r from nI_ge hlt (by omega))⟩)
      refine c_lampsOf fu.1 V wu rfl rfl rfl rfl hlt (fun ok => ⟨_, rfl, fu.1, ?_⟩) (fun no => ⟨_, rfl, fu.1, ?_⟩)
      rotate_left
      · (first | refine ⟨fun _ => ?_, fun n_ => absurd (show (-1 : Int32) = -1 from rfl) n_⟩ | refine ⟨fun n_ => absurd (show (-1 : Int32) = -1 from rfl) n_, fun _ => ?_⟩ | refine ⟨fun y_ => absurd y_ (show (-1 : Int32) = -1 from rfl), fun _ => ?_⟩ | refine ⟨fun _ => ?_, fun y_ => absurd y_ (show (-1 : Int32) = -1 from rfl)⟩)
        refine nx u fu cu ku wu ?_
        unfold hgR
        rw [hF_no no]
        exact ⟨r1, r2, r3⟩
      have ehF := hF_ok ok
      (first | refine ⟨fun _ => ?_, fun n_ => absurd (show ¬ nI (hcn s k r) = -1 from nI_m1 (by omega)) n_⟩ | refine ⟨fun n_ => absurd (show ¬ nI (hcn s k r) = -1 from nI_m1 (by omega)) n_, fun _ => ?_⟩ | refine ⟨fun y_ => absurd y_ (show ¬ nI (hcn s k r) = -1 from nI_m1 (by omega)), fun _ => ?_⟩ | refine ⟨fun _ => ?_, fun y_ => absurd y_ (show ¬ nI (hcn s k r) = -1 from nI_m1 (by omega))⟩)
      rw [r1]
      by_cases le : hcn s k r ≤ (hF A s k w m r).1
      rotate_left
      · (first | refine ⟨fun _ => ?_, fun n_ => absurd (show ¬ nI (hcn s k r) ≤ nI (hF A s k w m r).1 from nI_ge (by omega) (by omega)) n_⟩ | refine ⟨fun n_ => absurd (show ¬ nI (hcn s k r) ≤ nI (hF A s k w m r).1 from nI_ge (by omega) (by omega)) n_, fun _ => ?_⟩ | refine ⟨fun y_ => absurd y_ (show ¬ nI (hcn s k r) ≤ nI (hF A s k w m r).1 from nI_ge (by omega) (by omega)), fun _ => ?_⟩ | refine ⟨fun _ => ?_, fun y_ => absurd y_ (show ¬ nI (hcn s k r) ≤ nI (hF A s k w m r).1 from nI_ge (by omega) (by omega))⟩)
        refine nx u fu cu ku wu ?_
        unfold hgR
        rw [ehF, if_neg (by omega), if_neg (by omega)]
        exact ⟨r1, r2, r3⟩
      (first | refine ⟨fun _ => ?_, fun n_ => absurd (show nI (hcn s k r) ≤ nI (hF A s k w m r).1 from nI_le le (by omega)) n_⟩ | refine ⟨fun n_ => absurd (show nI (hcn s k r) ≤ nI (hF A s k w m r).1 from nI_le le (by omega)) n_, fun _ => ?_⟩ | refine ⟨fun y_ => absurd y_ (show nI (hcn s k r) ≤ nI (hF A s k w m r).1 from nI_le le (by omega)), fun _ => ?_⟩ | refine ⟨fun _ => ?_, fun y_ => absurd y_ (show nI (hcn s k r) ≤ nI (hF A s k w m r).1 from nI_le le (by omega))⟩)
      rw [nI_eq (show hcn s k r < 2 ^ 31 by omega) (show (hF A s k w m r).1 < 2 ^ 31 by omega), r2]
      by_cases eq : hcn s k r = (hF A s k w m r).1
      · (first | refine ⟨fun _ => ?_, fun n_ => absurd (eq) n_⟩ | refine ⟨fun n_ => absurd (eq) n_, fun _ => ?_⟩ | refine ⟨fun y_ => absurd y_ (eq), fun _ => ?_⟩ | refine ⟨fun _ => ?_, fun y_ => absurd y_ (eq)⟩)
        rintro h40 rfl
        rw [if_neg (by omega), if_pos eq] at ehF
        have w0 : (hF A s k w m r).2.1 ≠ 0 := fun y => by
          have := f3.mp y
          omega
        refine nx _ (hgF_s (by omega) fu) (cor_h (fun a ha => eqc_si eqc_rfl (by omega)) (sh_si fu.1) (by rw [ah_x_si]) cu) (hgK_fr (fun j => ah_i_sn (by omega)) ku) (wgO_fr (fun a ha j => ah_i_sn (by omega)) wu) ?_
        unfold hgR
        rw [ehF]
        refine ⟨by rw [ah_i_sn (by omega)]; exact r1, by rw [ah_i_ss, nI_1], fun _ i hi => by rw [ah_i_sn (by omega)]; exact r3 w0 i hi⟩
      · (first | refine ⟨fun _ => ?_, fun n_ => absurd (eq) n_⟩ | refine ⟨fun n_ => absurd (eq) n_, fun _ => ?_⟩ | refine ⟨fun y_ => absurd y_ (eq), fun _ => ?_⟩ | refine ⟨fun _ => ?_, fun y_ => absurd y_ (eq)⟩)
        rintro h34 rfl h37 rfl
        have lt : hcn s k r < (hF A s k w m r).1 := by omega
        rw [if_pos lt] at ehF
        have f37 : hgF h (ah_si (ah_si u 74 0 (nI (hcn s k r))) 74 1 1) := hgF_s (by omega) (hgF_s (by omega) fu)
        -- the row is kept
        have l222 : ∀ (q2 i un : Nat) (v : ah_T), i + q2 = hN s → un = hC k ^ (hN s - i) → hgF h v → cor g0 A v → hgK s k w m v → wgO A s k m v → ah_i v 74 0 = nI (hcn s k r) → ah_i v 74 1 = nI 1 → (∀ j, j < i → ah_i v 75 j = nI (hkd s k r j)) → Wp mX4_findHanging Q 0 0 222 [some (.ref 74), none, some (.int (nI k)), some (.int (nI w)), none, some (.int (nI (hN s))), some (.int (nI (hC k))), some (.int (nI (hC k ^ hN s))), some (.int (nI r)), none, some (.int (nI un)), some (.int (nI i)), none] [] v := by
          intro q2
          induction q2 with
          | zero =>
            intro i un v hi hun fv cv kv wv i0 i1 ro
            have e9 : i = hN s := by omega
            refine T_X4_findHanging_222 fv.1 _ _ _ _ _ _ _ _ ?_
            rw [e9]
            (first | refine ⟨fun _ => ?_, fun n_ => absurd (show nI (hN s) ≤ nI (hN s) from nI_le (Nat.le_refl _) (by omega)) n_⟩ | refine ⟨fun n_ => absurd (show nI (hN s) ≤ nI (hN s) from nI_le (Nat.le_refl _) (by omega)) n_, fun _ => ?_⟩ | refine ⟨fun y_ => absurd y_ (show nI (hN s) ≤ nI (hN s) from nI_le (Nat.le_refl _) (by omega)), fun _ => ?_⟩ | refine ⟨fun _ => ?_, fun y_ => absurd y_ (show nI (hN s) ≤ nI (hN s) from nI_le (Nat.le_refl _) (by omega))⟩)
            refine nx v fv cv kv wv ?_
            unfold hgR
            rw [ehF]
            exact ⟨i0, i1, fun _ j hj => ro j (by omega)⟩
          | succ q2 ih2 =>
            intro i un v hi hun fv cv kv wv i0 i1 ro
            have hin : i < hN s := by omega
            have ule : un ≤ 4096 := by rw [hun]; exact pw_46 (by omega) (by omega)
            have eun : un / hC k = hC k ^ (hN s - (i + 1)) := by
              rw [hun, show hN s - i = (hN s - (i + 1)) + 1 by omega, pw_dv cp]
            obtain ⟨d, ed⟩ : ∃ d, d = un / hC k := ⟨_, rfl⟩
            have dp : 0 < d := by rw [ed, eun]; exact pw_po cp _
            have dle : d ≤ un := by rw [ed]; exact Nat.div_le_self _ _
            have d0 : ¬ nI d = 0 := by rw [n_0, nI_eq (by omega) (by omega)]; omega
            have ech : nI r / nI d - nI r / nI d / nI (hC k) * nI (hC k) = nI (hch s k r i) := by
              rw [nI_divI (by omega) (by omega), nI_remI (Nat.lt_of_le_of_lt (Nat.div_le_self _ _) (by omega)) (by omega), ed, eun, show hN s - (i + 1) = hN s - 1 - i by omega]
              rfl
            have hl := hch_lt s k r i
            have vi : vp_in (nI i) 6 := (vp_nI (by omega)).mpr (by omega)
            have step : ∀ (x : Int32), x = nI (hkd s k r i) → Wp mX4_findHanging Q 0 0 222 [some (.ref 74), none, some (.int (nI k)), some (.int (nI w)), none, some (.int (nI (hN s))), some (.int (nI (hC k))), some (.int (nI (hC k ^ hN s))), some (.int (nI r)), none, some (.int (nI d)), some (.int (nI (i + 1))), none] [] (ah_si v 75 i x) := by
              intro x ex
              refine ih2 (i + 1) d _ (by omega) (by rw [ed]; exact eun) (hgF_s (by omega) fv) (cor_h (fun a ha => eqc_si eqc_rfl (by omega)) (sh_si fv.1) (by rw [ah_x_si]) cv) (hgK_fr (fun j => ah_i_sn (by omega)) kv) (wgO_fr (fun a ha j => ah_i_sn (by omega)) wv) (by rw [ah_i_sn (by omega)]; exact i0) (by rw [ah_i_sn (by omega)]; exact i1) (fun j hj => ?_)
              by_cases y : j = i
              · rw [y, ah_i_ss, ex]
              · rw [ah_i_sn (fun t => y t.2)]; exact ro j (by omega)
            refine T_X4_findHanging_222 fv.1 _ _ _ _ _ _ _ _ ?_
            (first | refine ⟨fun _ => ?_, fun n_ => absurd (show ¬ nI (hN s) ≤ nI i from nI_ge hin (by omega)) n_⟩ | refine ⟨fun n_ => absurd (show ¬ nI (hN s) ≤ nI i from nI_ge hin (by omega)) n_, fun _ => ?_⟩ | refine ⟨fun y_ => absurd y_ (show ¬ nI (hN s) ≤ nI i from nI_ge hin (by omega)), fun _ => ?_⟩ | refine ⟨fun _ => ?_, fun y_ => absurd y_ (show ¬ nI (hN s) ≤ nI i from nI_ge hin (by omega))⟩)
            rw [nI_divI (show un < 2 ^ 31 by omega) (show hC k < 2 ^ 31 by omega), ← ed, ech, n75 fv.1, nI_1, nI_clamp (show i < 2 ^ 31 by omega)]
            refine ⟨c0, fun _ => ⟨d0, c0, fun z => ?_, fun z => ⟨vi, ?_⟩⟩, fun y => absurd y d0⟩
            · have zz : hch s k r i ≠ 0 := fun y => z (by rw [y]; rfl)
              rw [n_1, nI_sub (by omega)]
              refine c_bitOf fv.1 rfl rfl (by omega) (fun _ => ⟨_, rfl, fv.1, ?_⟩) (fun y => absurd y (by omega))
              rw [n75 fv.1]
              refine ⟨vi, ?_⟩
              rintro h53 rfl
              exact step _ (by rw [hkd_y zz])
            · rintro h57 rfl
              have zz : hch s k r i = 0 := by rwa [n_0, nI_eq (by omega) (by omega)] at z
              exact step _ (by unfold hkd; rw [if_pos zz]; rfl)
        exact l222 (hN s) 0 _ _ (by omega) (by rw [Nat.sub_zero]) f37 (cor_h (fun a ha => eqc_si (eqc_si eqc_rfl (by omega)) (by omega)) f37.1 (by rw [ah_x_si, ah_x_si]) cu) (hgK_fr (fun j => by rw [ah_i_sn (by omega), ah_i_sn (by omega)]) ku) (wgO_fr (fun a ha j => by rw [ah_i_sn (by omega), ah_i_sn (by omega)]) wu) (by rw [ah_i_sn (by omega), ah_i_ss]) (by rw [ah_i_ss]; rfl) (fun j hj => absurd hj (by omega))
  -- asked anew
  have anew : Wp mX4_findHanging Q 0 0 42 [some (.ref 74), some (.int (nI s)), some (.int (nI k)), some (.int (nI w)), some (.int (nI m)), none, none, none, none, none, none, none, none] [] h := by
    refine T_X4_findHanging_42 hs _ _ _ _ ?_
    rw [z0, z1, z2, z3]
    rintro h5 rfl h8 rfl h11 rfl h14 q14
    have f14 : hgF h h14 := by rw [q14]; exact hgF_s (by omega) (hgF_s (by omega) (hgF_s (by omega) (hgF_s (by omega) (hgF_r hs))))
    have c14 : cor g0 A h14 := by rw [q14]; exact cor_h (fun a ha => eqc_si (eqc_si (eqc_si (eqc_si eqc_rfl (by omega)) (by omega)) (by omega)) (by omega)) (by rw [← q14]; exact f14.1) (by rw [ah_x_si, ah_x_si, ah_x_si, ah_x_si]) cc
    have k14 : hgK s k w m h14 := by
      rw [q14]
      exact ⟨by rw [ah_i_sn (by omega), ah_i_sn (by omega), ah_i_sn (by omega), ah_i_ss], by rw [ah_i_sn (by omega), ah_i_sn (by omega), ah_i_ss], by rw [ah_i_sn (by omega), ah_i_ss], by rw [ah_i_ss]⟩
    refine c_weigh f14.1 c14 v2 v3 v5 v6 v8 rfl rfl rfl (fun g fg cg eg wg => ⟨rfl, fg.1, ?_⟩)
    have emin : (if f_J6_bitCount_0f7a4 (nI s) < 6 then f_J6_bitCount_0f7a4 (nI s) else 6) = nI (hN s) := by
      rw [bc_20 (show s < 2 ^ 20 by omega)]
      show (if nI (hN s) < 6 then nI (hN s) else 6) = _
      by_cases z : hN s < 6
      · rw [if_pos (show nI (hN s) < 6 from nI_lt (b := 6) z (by omega))]
      · rw [if_neg (show ¬ nI (hN s) < 6 from nI_nlt (b := 6) (by omega) (by omega)), show hN s = 6 by omega]; rfl
    have emin3 : (if f_J6_bitCount_0f7a4 (nI k) < 3 then f_J6_bitCount_0f7a4 (nI k) else 3) = nI (hN k) := by
      rw [bc_20 (show k < 2 ^ 20 by omega)]
      show (if nI (hN k) < 3 then nI (hN k) else 3) = _
      by_cases z : hN k < 3
      · rw [if_pos (show nI (hN k) < 3 from nI_lt (b := 3) z (by omega))]
      · rw [if_neg (show ¬ nI (hN k) < 3 from nI_nlt (b := 3) (by omega) (by omega)), show hN k = 3 by omega]; rfl
    rw [emin, emin3, nI_1, nI_1]
    rintro h20 rfl h23 rfl
    have f23 : hgF h (ah_si (ah_si g 74 0 (nI (hN s + 1))) 74 1 0) := hgF_s (by omega) (hgF_s (by omega) (hgF_t f14 fg))
    have c23 : cor g0 A (ah_si (ah_si g 74 0 (nI (hN s + 1))) 74 1 0) := cor_h (fun a ha => eqc_si (eqc_si eqc_rfl (by omega)) (by omega)) f23.1 (by rw [ah_x_si, ah_x_si]) cg
    -- how many rows
    have l121 : ∀ (q i : Nat), i + q = hN s → Wp mX4_findHanging Q 0 0 121 [some (.ref 74), none, some (.int (nI k)), some (.int (nI w)), none, some (.int (nI (hN s))), some (.int (nI (hC k))), some (.int (nI (hC k ^ i))), some (.int (nI i)), none, none, none, none] [] (ah_si (ah_si g 74 0 (nI (hN s + 1))) 74 1 0) := by
      intro q
      induction q with
      | zero =>
        intro i hi
        have e9 : i = hN s := by omega
        refine T_X4_findHanging_121 f23.1 _ _ _ _ _ _ ?_
        rw [e9]
        (first | refine ⟨fun _ => ?_, fun n_ => absurd (show nI (hN s) ≤ nI (hN s) from nI_le (Nat.le_refl _) (by omega)) n_⟩ | refine ⟨fun n_ => absurd (show nI (hN s) ≤ nI (hN s) from nI_le (Nat.le_refl _) (by omega)) n_, fun _ => ?_⟩ | refine ⟨fun y_ => absurd y_ (show nI (hN s) ≤ nI (hN s) from nI_le (Nat.le_refl _) (by omega)), fun _ => ?_⟩ | refine ⟨fun _ => ?_, fun y_ => absurd y_ (show nI (hN s) ≤ nI (hN s) from nI_le (Nat.le_refl _) (by omega))⟩)
        refine l144 (hC k ^ hN s) 0 _ (by omega) f23 c23 (hgK_fr (fun j => by rw [ah_i_sn (by omega), ah_i_sn (by omega), (eg 76 (by omega)).1]) k14) (wgO_fr (fun a ha j => by rw [ah_i_sn (by omega), ah_i_sn (by omega)]) wg) ⟨by rw [ah_i_sn (by omega), ah_i_ss]; rfl, by rw [ah_i_ss]; rfl, fun y => absurd rfl y⟩
      | succ q ih =>
        intro i hi
        refine T_X4_findHanging_121 f23.1 _ _ _ _ _ _ ?_
        (first | refine ⟨fun _ => ?_, fun n_ => absurd (show ¬ nI (hN s) ≤ nI i from nI_ge (by omega) (by omega)) n_⟩ | refine ⟨fun n_ => absurd (show ¬ nI (hN s) ≤ nI i from nI_ge (by omega) (by omega)) n_, fun _ => ?_⟩ | refine ⟨fun y_ => absurd y_ (show ¬ nI (hN s) ≤ nI i from nI_ge (by omega) (by omega)), fun _ => ?_⟩ | refine ⟨fun _ => ?_, fun y_ => absurd y_ (show ¬ nI (hN s) ≤ nI i from nI_ge (by omega) (by omega))⟩)
        rw [nI_mul, ← Nat.pow_succ, nI_1]
        exact ih (i + 1) (by omega)
    exact l121 (hN s) 0 (by omega)
  refine T_X4_findHanging hs _ _ _ _ ?_
  rw [z0, z1, z2, z3]
  refine ⟨fun _ => anew, fun y0 => ⟨fun _ => anew, fun y1 => ⟨fun _ => anew, fun y2 => ⟨fun _ => anew, fun y3 => ?_⟩⟩⟩⟩
  rcases hx with z | ⟨s', k', w', m', V', ⟨b1, b2, b3, b4⟩, b5⟩
  · rw [z] at y0
    exact absurd y0.symm (nI_m1 (by omega))
  · obtain ⟨u1, u2, u3, u4, u5, u6, u7, u8⟩ := V'
    rw [b1, nI_eq (by omega) (by omega)] at y0
    rw [b2, nI_eq (by omega) (by omega)] at y1
    rw [b3, nI_eq (by omega) (by omega)] at y2
    rw [b4, nI_eq (by omega) (by omega)] at y3
    subst y0 y1 y2 y3
    exact hq h (hgF_r hs) cc ⟨b1, b2, b3, b4⟩ b5
theorem lkO_hg (K : KRp KX RX) (W : Wp1 WX hgX Chg) (f : hgF h g) (c : cor g0 A g) (hx : hgX A g) (l : lkO KX RX WX g0 A h) : lkO KX RX WX g0 A g := by
  obtain ⟨_, o, k, r, wq, f18, f19⟩ := l
  have ei : ∀ a, (a < 26 ∨ (28 < a ∧ a < 35) ∨ (35 < a ∧ a < 39) ∨ (39 < a ∧ a < 74) ∨ 78 < a) → eqc h g a := f.2.2.1
  have kr : krF h g := ⟨Nat.le_of_eq f.2.1.symm, fun a n => ei a (by omega), fun j _ => ⟨(ei 63 (by omega)).1 j, (ei 65 (by omega)).1 j⟩⟩
  refine ⟨c, ?_, K.1 _ _ kr k, K.2 _ _ _ kr k r, W.2 _ _ _ (fun a j w c => ?_) wq hx, by rw [(ei 0 (by omega)).1]; exact f18, by rw [(ei 0 (by omega)).1]; exact f19⟩
  · unfold chO at o ⊢
    rw [(ei 54 (by omega)).1]
    rcases o with y | ⟨y, r, l⟩
    · exact .inl y
    · exact .inr ⟨y, chR_fr (fun b hb => (ei b (by omega)).1) r, chL_fr (ei 59 (by omega)).1 l⟩
  · unfold wxc Cwk Cst Ccg Cli Cwo Chg Cpc at w
    unfold Chg at c
    rcases w with w | w | w | w | w | w | w
    · exact (ei a (by omega)).1 j
    · exact (ei a (by omega)).1 j
    · exact (ei a (by omega)).1 j
    · exact (ei a (by omega)).1 j
    · exact (ei a (by omega)).1 j
    · exact absurd w c
    · rw [w.1]
      exact f.2.2.2.1 j (by omega) (by omega)
end HH
