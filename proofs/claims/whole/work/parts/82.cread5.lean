/-! ===== the class's reader: a plain test ===== -/
section CR
variable {cs vs : Nat → Nat} {isV : Nat → Bool} {n : Nat} {h0 h : ah_T}
theorem dep_cmp {s : Nat} {f m : Mg} {wd : Int32} (h1 : dep f wd) (h2 : dep m wd) : depT (cmpT s f m) wd := fun w w' k => by unfold cmpT; rw [h1 w w' k, h2 w w' k]
theorem dep_not {b : Bool} {m : Tg} {wd : Int32} (h1 : depT m wd) : depT (notT b m) wd := fun w w' k => by unfold notT; rw [h1 w w' k]
theorem cr_plain {d dp e : Nat} {rec : Option (Nat → Nat → pR Tg)} (t : Ck cs vs isV n h0) (hd : 8 ≤ d) (he8 : e ≤ 8) (hdp : dp ≤ 8) (hsum : cRd cs vs isV n h0 (mX5_readSum (d - 1)) (nI dp) (pSum cs vs isV e)) (hnone : rec = none → dp = 8) (hsome : ∀ f, rec = some f → dp < 8 ∧ lvO n f ∧ cTd (6 + e) 2 cs vs isV n h0 (mX5_readTest (d - 1)) (nI (dp + 1)) f) : cTd (6 + e) 0 cs vs isV n h0 (mX5_readPlain d) (nI dp) (pPlain cs vs isV e rec) := by
  have h400 := t.1
  have okS := pSum_ok (vs := vs) (isV := isV) t.2.1 t.2.2.1 e
  -- behind the nots
  have tail : ∀ (Q : Option Value → ah_T → Prop) (h : ah_T) (f : Bool) (i q lv : Nat) (c : Nat → Nat) (wd : Int32), i ≤ n → lv ≤ 50 → 2 * q + 15 * (50 - lv) ≤ 980 → cS h0 h i q lv c wd → (∀ v h', cPt (6 + e) 0 h0 ((pPos cs vs isV e rec i lv).1, (pPos cs vs isV e rec i lv).2.1, (pPos cs vs isV e rec i lv).2.2.1, notT f (pPos cs vs isV e rec i lv).2.2.2) q lv c wd v h' → Q (some (.int v)) h') → Wp (mX5_readPlain d) Q 0 0 51 [some (.ref 20), some (.int (nI dp)), some (.int (bI f)), none] [] h := by
    intro Q h f i q lv c wd hi hl hroom s hq
    have t' := Ck_fr s.1 t
    have htk := tkA_i t' hi
    have hle := tkA_le t' hi
    have sgn := tkA_sign t' hi (s := 140) (by decide) (by decide)
    have v21 : ∀ {h : ah_T} {k : Nat}, Sh h → k ≤ n → vp_in (nI k) (ah_n h 21) := fun hs hk => by rw [sh_n hs 21 401 (by decide) (by decide) rfl]; exact (vp_nI (by omega)).mpr (by omega)
    -- the end: a not perhaps
    have l217 : ∀ (h' : ah_T) (p' q' lv' : Nat) (c' : Nat → Nat) (wd' : Int32) (m : Tg), pPos cs vs isV e rec i lv = (true, p', lv', m) → cS h0 h' p' q' lv' c' wd' → lv + 2 ≤ lv' → lv' ≤ 50 → 2 * q' + 2 ≤ 2 * q + (6 + e) * (lv' - lv) → q' < 499 → (∀ k, k < q → c' k = c k) → impT c' q q' m (lv' - lv) → (∀ j, j < 32 → bt wd j = true → bt wd' j = true) → depT m wd' → Wp (mX5_readPlain d) Q 0 0 217 [some (.ref 20), none, some (.int (bI f)), none] [] h' := by
      intro h' p' q' lv' c' wd' m ep s' k1 k2 k3 k4 k5 k6 k7 k8
      rw [ep] at hq
      refine T_X5_readPlain_217 hd s'.1.1 _ ?_
      cases f
      · (first | refine ⟨fun _ => ?_, fun n_ => absurd (show bI false = 0 by rfl) n_⟩ | refine ⟨fun n_ => absurd (show bI false = 0 by rfl) n_, fun _ => ?_⟩ | refine ⟨fun y_ => absurd y_ (show bI false = 0 by rfl), fun _ => ?_⟩ | refine ⟨fun _ => ?_, fun y_ => absurd y_ (show bI false = 0 by rfl)⟩)
        refine T_X5_readPlain_229 hd s'.1.1 (hq 1 h' ⟨fun _ => ⟨rfl, q', c', wd', s', k1, by show 2 * q' + 0 ≤ 2 * q + (6 + e) * (lv' - lv); omega, k5, by show impT c' q q' (notT false m) _; rw [notT_f]; exact k6, k7, by show depT (notT false m) _; exact dep_not k8⟩, fun z => absurd (show true = false from z) (by decide)⟩)
      · (first | refine ⟨fun _ => ?_, fun n_ => absurd (show ¬ bI true = 0 by decide) n_⟩ | refine ⟨fun n_ => absurd (show ¬ bI true = 0 by decide) n_, fun _ => ?_⟩ | refine ⟨fun y_ => absurd y_ (show ¬ bI true = 0 by decide), fun _ => ?_⟩ | refine ⟨fun _ => ?_, fun y_ => absurd y_ (show ¬ bI true = 0 by decide)⟩)
        refine c_emit (o := 11) (v := 0) s' (by omega) (by decide) (by decide) rfl rfl (fun h2 s2 => ⟨_, rfl, s2.1.1, T_X5_readPlain_229 hd s2.1.1 (hq 1 h2 ⟨fun _ => ⟨rfl, q' + 1, _, wd', s2, k1, by show 2 * (q' + 1) + 0 ≤ 2 * q + (6 + e) * (lv' - lv); omega, fun j hj => by rw [up_n (by have := k6.1; omega)]; exact k5 j hj, ?_, k7, dep_not k8⟩, fun z => absurd (show true = false from z) (by decide)⟩)⟩)
        exact impT_not (impT_ext (fun j h1 h2 => up_n (by omega)) k6) (up_s _ _ _)
    have fail : ∀ (h' : ah_T) (p' : Nat), (pPos cs vs isV e rec i lv).1 = false → (pPos cs vs isV e rec i lv).2.1 = p' → cFr h0 h' → ah_i h' 20 6 = nI p' → Q (some (.int 0)) h' := fun h' p' e1 e2 k1 k2 => hq 0 h' ⟨fun z => by rw [show ((pPos cs vs isV e rec i lv).1, (pPos cs vs isV e rec i lv).2.1, (pPos cs vs isV e rec i lv).2.2.1, notT f (pPos cs vs isV e rec i lv).2.2.2).1 = (pPos cs vs isV e rec i lv).1 from rfl, e1] at z; exact absurd z (by decide), fun _ => ⟨rfl, k1, by show ah_i h' 20 6 = nI (pPos cs vs isV e rec i lv).2.1; rw [e2]; exact k2⟩⟩
    refine T_X5_readPlain_51 hd s.1.1 _ _ ?_
    rw [s.2.1, nI_clamp (by omega), htk]
    refine ⟨v21 s.1.1 hi, ?_⟩
    by_cases z : cs i = 140
    · have hin : i < n := by
        rcases Nat.lt_or_ge i n with k | k
        · exact k
        · have : i = n := by omega
          rw [this, t.2.1] at z
          omega
      (first | refine ⟨fun _ => ?_, fun n_ => absurd (show nI (tkA cs vs n i) = 140 by rw [sgn.mpr z]; rfl) n_⟩ | refine ⟨fun n_ => absurd (show nI (tkA cs vs n i) = 140 by rw [sgn.mpr z]; rfl) n_, fun _ => ?_⟩ | refine ⟨fun y_ => absurd y_ (show nI (tkA cs vs n i) = 140 by rw [sgn.mpr z]; rfl), fun _ => ?_⟩ | refine ⟨fun _ => ?_, fun y_ => absurd y_ (show nI (tkA cs vs n i) = 140 by rw [sgn.mpr z]; rfl)⟩)
      cases rec with
      | none =>
        have e8 := hnone rfl
        subst e8
        (first | refine ⟨fun _ => ?_, fun n_ => absurd (show ¬ nI 8 < 8 by decide) n_⟩ | refine ⟨fun n_ => absurd (show ¬ nI 8 < 8 by decide) n_, fun _ => ?_⟩ | refine ⟨fun y_ => absurd y_ (show ¬ nI 8 < 8 by decide), fun _ => ?_⟩ | refine ⟨fun _ => ?_, fun y_ => absurd y_ (show ¬ nI 8 < 8 by decide)⟩)
        exact fail h i (by unfold pPos; rw [if_pos z]; rfl) (by unfold pPos; rw [if_pos z]; rfl) s.1 s.2.1
      | some g =>
        obtain ⟨hlt, okf, hf⟩ := hsome g rfl
        (first | refine ⟨fun _ => ?_, fun n_ => absurd (show nI dp < 8 from nI_lt (b := 8) hlt (by decide)) n_⟩ | refine ⟨fun n_ => absurd (show nI dp < 8 from nI_lt (b := 8) hlt (by decide)) n_, fun _ => ?_⟩ | refine ⟨fun y_ => absurd y_ (show nI dp < 8 from nI_lt (b := 8) hlt (by decide)), fun _ => ?_⟩ | refine ⟨fun _ => ?_, fun y_ => absurd y_ (show nI dp < 8 from nI_lt (b := 8) hlt (by decide))⟩)
        rw [← s.2.1, nI_1]
        rintro h22 rfl
        obtain ⟨e1, e2, e3⟩ := okf (i + 1) lv (by omega) hl
        refine hf _ _ (i + 1) q lv c wd (by omega) hl hroom (cS_at s) (fun v h25 p => ⟨_, rfl, cPt_Sh p, ?_⟩)
        by_cases c2 : (g (i + 1) lv).1 = true
        · obtain ⟨e4, e5, e6⟩ := e3 c2
          obtain ⟨ev, q', c', wd', s3, r0, r1, r2, r3, r4, r5⟩ := p.1 c2
          subst ev
          (first | refine ⟨fun _ => ?_, fun n_ => absurd (show ¬ (1 : Int32) = 0 by decide) n_⟩ | refine ⟨fun n_ => absurd (show ¬ (1 : Int32) = 0 by decide) n_, fun _ => ?_⟩ | refine ⟨fun y_ => absurd y_ (show ¬ (1 : Int32) = 0 by decide), fun _ => ?_⟩ | refine ⟨fun _ => ?_, fun y_ => absurd y_ (show ¬ (1 : Int32) = 0 by decide)⟩)
          have t3 := Ck_fr s3.1 t
          have htk3 := tkA_i t3 e1
          have hle3 := tkA_le t3 e1
          have sgn3 := tkA_sign t3 e1 (s := 141) (by decide) (by decide)
          rw [s3.2.1, nI_clamp (by omega), htk3]
          refine ⟨v21 s3.1.1 e1, fun k => ?_, fun k => ?_⟩
          · have c3 : cs (g (i + 1) lv).2.1 = 141 := sgn3.mp ((nI_eq (b := 141) (by omega) (by decide)).mp k)
            rw [← s3.2.1]
            rintro h31 rfl
            have hlim : (6 + e) * ((g (i + 1) lv).2.2.1 - lv) ≤ 14 * ((g (i + 1) lv).2.2.1 - lv) := Nat.mul_le_mul_right _ (by omega)
            exact l217 _ _ q' _ c' wd' _ (by unfold pPos; rw [if_pos z]; dsimp only; rw [if_pos c2, if_pos c3]) (cS_at s3) r0 e6 r1 (by omega) r2 r3 r4 r5
          · have c3 : ¬ cs (g (i + 1) lv).2.1 = 141 := fun e => k (by rw [sgn3.mpr e]; rfl)
            exact T_X5_readPlain_109 hd s3.1.1 (fail h25 _ (by unfold pPos; rw [if_pos z]; dsimp only; rw [if_pos c2, if_neg c3]; rfl) (by unfold pPos; rw [if_pos z]; dsimp only; rw [if_pos c2, if_neg c3]; rfl) s3.1 s3.2.1)
        · obtain ⟨ev, r1, r2⟩ := p.2 (Bool.eq_false_iff.mpr c2)
          subst ev
          (first | refine ⟨fun _ => ?_, fun n_ => absurd (show (0 : Int32) = 0 by rfl) n_⟩ | refine ⟨fun n_ => absurd (show (0 : Int32) = 0 by rfl) n_, fun _ => ?_⟩ | refine ⟨fun y_ => absurd y_ (show (0 : Int32) = 0 by rfl), fun _ => ?_⟩ | refine ⟨fun _ => ?_, fun y_ => absurd y_ (show (0 : Int32) = 0 by rfl)⟩)
          exact T_X5_readPlain_109 hd r1.1 (fail h25 _ (by unfold pPos; rw [if_pos z]; dsimp only; rw [if_neg c2]; exact Bool.eq_false_iff.mpr c2) (by unfold pPos; rw [if_pos z]; dsimp only; rw [if_neg c2]) r1 r2)
    · (first | refine ⟨fun _ => ?_, fun n_ => absurd (show ¬ nI (tkA cs vs n i) = 140 from fun y => z (sgn.mp ((nI_eq (b := 140) (by omega) (by decide)).mp y))) n_⟩ | refine ⟨fun n_ => absurd (show ¬ nI (tkA cs vs n i) = 140 from fun y => z (sgn.mp ((nI_eq (b := 140) (by omega) (by decide)).mp y))) n_, fun _ => ?_⟩ | refine ⟨fun y_ => absurd y_ (show ¬ nI (tkA cs vs n i) = 140 from fun y => z (sgn.mp ((nI_eq (b := 140) (by omega) (by decide)).mp y))), fun _ => ?_⟩ | refine ⟨fun _ => ?_, fun y_ => absurd y_ (show ¬ nI (tkA cs vs n i) = 140 from fun y => z (sgn.mp ((nI_eq (b := 140) (by omega) (by decide)).mp y)))⟩)
      obtain ⟨e1, e2, e3⟩ := okS i lv hi hl
      refine hsum _ h i q lv c wd hi hl (by omega) s (fun v h13 p => ⟨_, rfl, cPo_Sh p, ?_⟩)
      by_cases c2 : (pSum cs vs isV e i lv).1 = true
      · obtain ⟨e4, e5, e6⟩ := e3 c2
        have hlt := lvlt p c2
        obtain ⟨ev, q', c', wd', s3, r1, r2, r3, r4, r5⟩ := p.1 c2
        subst ev
        (first | refine ⟨fun _ => ?_, fun n_ => absurd (show ¬ (1 : Int32) = 0 by decide) n_⟩ | refine ⟨fun n_ => absurd (show ¬ (1 : Int32) = 0 by decide) n_, fun _ => ?_⟩ | refine ⟨fun y_ => absurd y_ (show ¬ (1 : Int32) = 0 by decide), fun _ => ?_⟩ | refine ⟨fun _ => ?_, fun y_ => absurd y_ (show ¬ (1 : Int32) = 0 by decide)⟩)
        have t3 := Ck_fr s3.1 t
        have htk3 := tkA_i t3 e1
        rw [s3.2.1, nI_clamp (by omega), htk3]
        have sg := ck_sg t3 e1
        have go : ∀ (sc : Nat) (x3 : Int32), (sc = 160 ∧ x3 = 60 ∨ sc = 162 ∧ x3 = 62 ∨ sc = 161 ∧ x3 = 61) → cs (pSum cs vs isV e i lv).2.1 = sc → Wp (mX5_readPlain d) Q 0 0 167 [some (.ref 20), some (.int (nI dp)), some (.int (bI f)), some (.int x3)] [] h13 := by
          intro sc x3 hx ec
          have cc : isCmp (cs (pSum cs vs isV e i lv).2.1) = true := by rw [ec]; rcases hx with ⟨rfl, _⟩ | ⟨rfl, _⟩ | ⟨rfl, _⟩ <;> rfl
          have hin : (pSum cs vs isV e i lv).2.1 < n := by
            rcases Nat.lt_or_ge (pSum cs vs isV e i lv).2.1 n with y | y
            · exact y
            · have : (pSum cs vs isV e i lv).2.1 = n := by omega
              rw [this, t.2.1] at ec
              omega
          refine T_X5_readPlain_167 hd s3.1.1 _ _ _ ?_
          rintro h34 rfl
          obtain ⟨g1, g2, g3⟩ := okS ((pSum cs vs isV e i lv).2.1 + 1) (pSum cs vs isV e i lv).2.2.1 (by omega) e6
          refine hsum _ _ _ q' _ c' wd' (by omega) e6 (by omega) (cS_at s3) (fun v2 h37 p2 => ⟨_, rfl, cPo_Sh p2, ?_⟩)
          by_cases c4 : (pSum cs vs isV e ((pSum cs vs isV e i lv).2.1 + 1) (pSum cs vs isV e i lv).2.2.1).1 = true
          · obtain ⟨g4, g5, g6⟩ := g3 c4
            have hlt2 := lvlt p2 c4
            obtain ⟨ev2, q2, c2', wd2, s4, u1, u2, u3, u4, u5⟩ := p2.1 c4
            subst ev2
            (first | refine ⟨fun _ => ?_, fun n_ => absurd (show ¬ (1 : Int32) = 0 by decide) n_⟩ | refine ⟨fun n_ => absurd (show ¬ (1 : Int32) = 0 by decide) n_, fun _ => ?_⟩ | refine ⟨fun y_ => absurd y_ (show ¬ (1 : Int32) = 0 by decide), fun _ => ?_⟩ | refine ⟨fun _ => ?_, fun y_ => absurd y_ (show ¬ (1 : Int32) = 0 by decide)⟩)
            have em : ∀ (o : Nat) (x : Int32), o < 32 → cmN sc = o → x = nI o → Mt mX5_emit [.ref 20, .int x, .int 0] h37 (ab_qi fun v45 h43 => Sh h43 ∧ Wp (mX5_readPlain d) Q 0 0 217 [some (.ref 20), none, some (.int (bI f)), none] [] h43) := by
              intro o x ho hoc ex
              have hlim : 6 * ((pSum cs vs isV e ((pSum cs vs isV e i lv).2.1 + 1) (pSum cs vs isV e i lv).2.2.1).2.2.1 - lv) ≤ (6 + e) * ((pSum cs vs isV e ((pSum cs vs isV e i lv).2.1 + 1) (pSum cs vs isV e i lv).2.2.1).2.2.1 - lv) := Nat.mul_le_mul_right _ (by omega)
              have b1 := r3.1
              have b2 := u3.1
              refine c_emit (o := o) (v := 0) s4 (by omega) ho (by decide) ex rfl (fun h43 s5 => ⟨_, rfl, s5.1.1, ?_⟩)
              refine l217 h43 _ (q2 + 1) _ _ wd2 (cmpT (cs (pSum cs vs isV e i lv).2.1) (pSum cs vs isV e i lv).2.2.2 (pSum cs vs isV e ((pSum cs vs isV e i lv).2.1 + 1) (pSum cs vs isV e i lv).2.2.1).2.2.2) (by unfold pPos; rw [if_neg z, if_pos c2, if_pos cc, if_pos c4]) s5 (by omega) g6 (by omega) (by omega) (fun j hj => by rw [up_n (by omega), u2 j (by omega), r2 j hj]) ?_ (fun j hj y => u4 j hj (r4 j hj y)) (dep_cmp (dep_mono r5 u4) u5)
              have i1 : impS (up c2' q2 (o + 32 * 0)) q q' (pSum cs vs isV e i lv).2.2.2 ((pSum cs vs isV e i lv).2.2.1 - lv) := impS_ext (fun j h1 h2 => by rw [up_n (by omega), u2 j h2]) r3
              have i2 : impS (up c2' q2 (o + 32 * 0)) q' q2 _ _ := impS_ext (fun j h1 h2 => up_n (by omega)) u3
              have := impT_cmp (s := cs (pSum cs vs isV e i lv).2.1) (by omega) i1 i2 (by rw [up_s, ec, hoc]; rfl)
              rwa [show (pSum cs vs isV e i lv).2.2.1 - lv + ((pSum cs vs isV e ((pSum cs vs isV e i lv).2.1 + 1) (pSum cs vs isV e i lv).2.2.1).2.2.1 - (pSum cs vs isV e i lv).2.2.1) = (pSum cs vs isV e ((pSum cs vs isV e i lv).2.1 + 1) (pSum cs vs isV e i lv).2.2.1).2.2.1 - lv by omega] at this
            rcases hx with ⟨rfl, rfl⟩ | ⟨rfl, rfl⟩ | ⟨rfl, rfl⟩
            · (first | refine ⟨fun _ => ?_, fun n_ => absurd (show (60 : Int32) = 60 by rfl) n_⟩ | refine ⟨fun n_ => absurd (show (60 : Int32) = 60 by rfl) n_, fun _ => ?_⟩ | refine ⟨fun y_ => absurd y_ (show (60 : Int32) = 60 by rfl), fun _ => ?_⟩ | refine ⟨fun _ => ?_, fun y_ => absurd y_ (show (60 : Int32) = 60 by rfl)⟩)
              exact em 8 8 (by decide) rfl rfl
            · (first | refine ⟨fun _ => ?_, fun n_ => absurd (show ¬ (62 : Int32) = 60 by decide) n_⟩ | refine ⟨fun n_ => absurd (show ¬ (62 : Int32) = 60 by decide) n_, fun _ => ?_⟩ | refine ⟨fun y_ => absurd y_ (show ¬ (62 : Int32) = 60 by decide), fun _ => ?_⟩ | refine ⟨fun _ => ?_, fun y_ => absurd y_ (show ¬ (62 : Int32) = 60 by decide)⟩)
              (first | refine ⟨fun _ => ?_, fun n_ => absurd (show (62 : Int32) = 62 by rfl) n_⟩ | refine ⟨fun n_ => absurd (show (62 : Int32) = 62 by rfl) n_, fun _ => ?_⟩ | refine ⟨fun y_ => absurd y_ (show (62 : Int32) = 62 by rfl), fun _ => ?_⟩ | refine ⟨fun _ => ?_, fun y_ => absurd y_ (show (62 : Int32) = 62 by rfl)⟩)
              exact em 9 9 (by decide) rfl rfl
            · (first | refine ⟨fun _ => ?_, fun n_ => absurd (show ¬ (61 : Int32) = 60 by decide) n_⟩ | refine ⟨fun n_ => absurd (show ¬ (61 : Int32) = 60 by decide) n_, fun _ => ?_⟩ | refine ⟨fun y_ => absurd y_ (show ¬ (61 : Int32) = 60 by decide), fun _ => ?_⟩ | refine ⟨fun _ => ?_, fun y_ => absurd y_ (show ¬ (61 : Int32) = 60 by decide)⟩)
              (first | refine ⟨fun _ => ?_, fun n_ => absurd (show ¬ (61 : Int32) = 62 by decide) n_⟩ | refine ⟨fun n_ => absurd (show ¬ (61 : Int32) = 62 by decide) n_, fun _ => ?_⟩ | refine ⟨fun y_ => absurd y_ (show ¬ (61 : Int32) = 62 by decide), fun _ => ?_⟩ | refine ⟨fun _ => ?_, fun y_ => absurd y_ (show ¬ (61 : Int32) = 62 by decide)⟩)
              exact em 10 10 (by decide) rfl rfl
          · obtain ⟨ev2, u1, u2⟩ := p2.2 (Bool.eq_false_iff.mpr c4)
            subst ev2
            (first | refine ⟨fun _ => ?_, fun n_ => absurd (show (0 : Int32) = 0 by rfl) n_⟩ | refine ⟨fun n_ => absurd (show (0 : Int32) = 0 by rfl) n_, fun _ => ?_⟩ | refine ⟨fun y_ => absurd y_ (show (0 : Int32) = 0 by rfl), fun _ => ?_⟩ | refine ⟨fun _ => ?_, fun y_ => absurd y_ (show (0 : Int32) = 0 by rfl)⟩)
            exact fail h37 _ (by unfold pPos; rw [if_neg z, if_pos c2, if_pos cc, if_neg c4]; rfl) (by unfold pPos; rw [if_neg z, if_pos c2, if_pos cc, if_neg c4]; rfl) u1 u2
        refine ⟨v21 s3.1.1 e1, fun k => ?_, fun k => ⟨fun k2 => ?_, fun k2 => ⟨fun k3 => ?_, fun k3 => ?_⟩⟩⟩
        · rw [k]; exact go 160 60 (.inl ⟨rfl, rfl⟩) ((sg 60 (by decide)).mp k)
        · rw [k2]; exact go 162 62 (.inr (.inl ⟨rfl, rfl⟩)) ((sg 62 (by decide)).mp k2)
        · rw [k3]; exact go 161 61 (.inr (.inr ⟨rfl, rfl⟩)) ((sg 61 (by decide)).mp k3)
        · have cc : ¬ isCmp (cs (pSum cs vs isV e i lv).2.1) = true := by
            unfold isCmp
            simp
            exact ⟨⟨fun y => k ((sg 60 (by decide)).mpr y), fun y => k2 ((sg 62 (by decide)).mpr y)⟩, fun y => k3 ((sg 61 (by decide)).mpr y)⟩
          exact fail h13 _ (by unfold pPos; rw [if_neg z, if_pos c2, if_neg cc]; rfl) (by unfold pPos; rw [if_neg z, if_pos c2, if_neg cc]; rfl) s3.1 s3.2.1
      · obtain ⟨ev, r1, r2⟩ := p.2 (Bool.eq_false_iff.mpr c2)
        subst ev
        (first | refine ⟨fun _ => ?_, fun n_ => absurd (show (0 : Int32) = 0 by rfl) n_⟩ | refine ⟨fun n_ => absurd (show (0 : Int32) = 0 by rfl) n_, fun _ => ?_⟩ | refine ⟨fun y_ => absurd y_ (show (0 : Int32) = 0 by rfl), fun _ => ?_⟩ | refine ⟨fun _ => ?_, fun y_ => absurd y_ (show (0 : Int32) = 0 by rfl)⟩)
        exact fail h13 _ (by unfold pPos; rw [if_neg z, if_neg c2]; rfl) (by unfold pPos; rw [if_neg z, if_neg c2]; rfl) r1 r2
  -- the nots
  have lp : ∀ (k : Nat) (Q : Option Value → ah_T → Prop) (h : ah_T) (f : Bool) (j i q lv : Nat) (c : Nat → Nat) (wd : Int32), n - i < k → i ≤ n → j ≤ i → cS h0 h i q lv c wd → (∀ h', cS h0 h' (i + nots cs k i) q lv c wd → Wp (mX5_readPlain d) Q 0 0 51 [some (.ref 20), some (.int (nI dp)), some (.int (bI (f ^^ (nots cs k i % 2 == 1)))), none] [] h') → Wp (mX5_readPlain d) Q 0 0 4 [some (.ref 20), some (.int (nI dp)), some (.int (bI f)), some (.int (nI j))] [] h := by
    intro k
    induction k with
    | zero => intro Q h f j i q lv c wd hk; omega
    | succ k ih =>
      intro Q h f j i q lv c wd hk hi hj s hq
      unfold nots at hq
      have t' := Ck_fr s.1 t
      have htk := tkA_i t' hi
      have hle := tkA_le t' hi
      have wd7 := tkA_word t' hi (c := 7) (by decide) (by decide)
      refine T_X5_readPlain_4 hd s.1.1 _ _ _ ?_
      by_cases c4 : 400 ≤ j
      · (first | refine ⟨fun _ => ?_, fun n_ => absurd (show 400 ≤ nI j from nI_le (a := 400) c4 (by omega)) n_⟩ | refine ⟨fun n_ => absurd (show 400 ≤ nI j from nI_le (a := 400) c4 (by omega)) n_, fun _ => ?_⟩ | refine ⟨fun y_ => absurd y_ (show 400 ≤ nI j from nI_le (a := 400) c4 (by omega)), fun _ => ?_⟩ | refine ⟨fun _ => ?_, fun y_ => absurd y_ (show 400 ≤ nI j from nI_le (a := 400) c4 (by omega))⟩)
        have e : i = n := by omega
        have cz : ¬ cs i = 7 := by rw [e, t.2.1]; decide
        rw [if_neg cz] at hq
        have := hq h s
        rwa [show (f ^^ (0 % 2 == 1)) = f by cases f <;> rfl] at this
      (first | refine ⟨fun _ => ?_, fun n_ => absurd (show ¬ 400 ≤ nI j from nI_ge (b := 400) (by omega) (by omega)) n_⟩ | refine ⟨fun n_ => absurd (show ¬ 400 ≤ nI j from nI_ge (b := 400) (by omega) (by omega)) n_, fun _ => ?_⟩ | refine ⟨fun y_ => absurd y_ (show ¬ 400 ≤ nI j from nI_ge (b := 400) (by omega) (by omega)), fun _ => ?_⟩ | refine ⟨fun _ => ?_, fun y_ => absurd y_ (show ¬ 400 ≤ nI j from nI_ge (b := 400) (by omega) (by omega))⟩)
      rw [s.2.1, nI_clamp (by omega), htk]
      refine ⟨by rw [sh_n s.1.1 21 401 (by decide) (by decide) rfl]; exact (vp_nI (by omega)).mpr (by omega), ?_⟩
      by_cases cz : cs i = 7
      · rw [if_pos cz] at hq
        have hin : i < n := by
          rcases Nat.lt_or_ge i n with y | y
          · exact y
          · have : i = n := by omega
            rw [this, t.2.1] at cz
            omega
        have par : ∀ m : Nat, (f ^^ ((m + 1) % 2 == 1)) = (!f ^^ (m % 2 == 1)) := by
          intro m
          rcases (show m % 2 = 0 ∨ m % 2 = 1 by omega) with y | y
          · have : (m + 1) % 2 = 1 := by omega
            rw [y, this]; cases f <;> rfl
          · have : (m + 1) % 2 = 0 := by omega
            rw [y, this]; cases f <;> rfl
        (first | refine ⟨fun _ => ?_, fun n_ => absurd (show nI (tkA cs vs n i) = 24 by rw [wd7.mpr cz]; rfl) n_⟩ | refine ⟨fun n_ => absurd (show nI (tkA cs vs n i) = 24 by rw [wd7.mpr cz]; rfl) n_, fun _ => ?_⟩ | refine ⟨fun y_ => absurd y_ (show nI (tkA cs vs n i) = 24 by rw [wd7.mpr cz]; rfl), fun _ => ?_⟩ | refine ⟨fun _ => ?_, fun y_ => absurd y_ (show nI (tkA cs vs n i) = 24 by rw [wd7.mpr cz]; rfl)⟩)
        rw [← s.2.1, nI_1]
        have go := ih Q _ (!f) (j + 1) (i + 1) q lv c wd (by omega) (by omega) (by omega) (cS_at s) (fun h2 s2 => by
          rw [← par]
          exact hq h2 (by rwa [show i + (nots cs k (i + 1) + 1) = i + 1 + nots cs k (i + 1) by omega]))
        cases f
        · (first | refine ⟨fun _ => ?_, fun n_ => absurd (show bI false = 0 by rfl) n_⟩ | refine ⟨fun n_ => absurd (show bI false = 0 by rfl) n_, fun _ => ?_⟩ | refine ⟨fun y_ => absurd y_ (show bI false = 0 by rfl), fun _ => ?_⟩ | refine ⟨fun _ => ?_, fun y_ => absurd y_ (show bI false = 0 by rfl)⟩)
          rintro h8 rfl
          exact go
        · (first | refine ⟨fun _ => ?_, fun n_ => absurd (show ¬ bI true = 0 by decide) n_⟩ | refine ⟨fun n_ => absurd (show ¬ bI true = 0 by decide) n_, fun _ => ?_⟩ | refine ⟨fun y_ => absurd y_ (show ¬ bI true = 0 by decide), fun _ => ?_⟩ | refine ⟨fun _ => ?_, fun y_ => absurd y_ (show ¬ bI true = 0 by decide)⟩)
          rintro h5 rfl
          exact go
      · rw [if_neg cz] at hq
        (first | refine ⟨fun _ => ?_, fun n_ => absurd (show ¬ nI (tkA cs vs n i) = 24 from fun y => cz (wd7.mp ((nI_eq (b := 24) (by omega) (by decide)).mp y))) n_⟩ | refine ⟨fun n_ => absurd (show ¬ nI (tkA cs vs n i) = 24 from fun y => cz (wd7.mp ((nI_eq (b := 24) (by omega) (by decide)).mp y))) n_, fun _ => ?_⟩ | refine ⟨fun y_ => absurd y_ (show ¬ nI (tkA cs vs n i) = 24 from fun y => cz (wd7.mp ((nI_eq (b := 24) (by omega) (by decide)).mp y))), fun _ => ?_⟩ | refine ⟨fun _ => ?_, fun y_ => absurd y_ (show ¬ nI (tkA cs vs n i) = 24 from fun y => cz (wd7.mp ((nI_eq (b := 24) (by omega) (by decide)).mp y)))⟩)
        have := hq h s
        rwa [show (f ^^ (0 % 2 == 1)) = f by cases f <;> rfl] at this
  intro Q h i q lv c wd hi hl hroom s hq
  refine T_X5_readPlain hd s.1.1 _ (lp 401 Q h false 0 i q lv c wd (by omega) hi (by omega) s (fun h' s' => ?_))
  have e0 : (false ^^ (nots cs 401 i % 2 == 1)) = (nots cs 401 i % 2 == 1) := by cases (nots cs 401 i % 2 == 1) <;> rfl
  rw [e0]
  exact tail Q h' _ _ q lv c wd (nots_le 401 i hi t.2.1) hl hroom s' hq
end CR
