/-! ===== the class's night: it is loaded, begun, kept ===== -/
/-- a night between two minutes, as the class holds it; fr: lamps that burn since this minute -/
def cNS (N : Nd) (S : Ns) (fr : Nat → Bool) (h : ah_T) : Prop := wfN2 N S ∧ (∀ l, l < N.n → (S.bu l = true → 0 < S.oi l ∧ S.ou l = 0) ∧ (S.ou l ≠ 0 → 0 < S.oi l)) ∧ (∀ i, i < 32 → (bt (ah_i h 43 5) i = true ↔ i < N.n ∧ S.bu i = true)) ∧ (∀ i, i < 32 → (bt (ah_i h 43 14) i = true ↔ i < N.n ∧ S.ou i ≠ 0)) ∧ (∀ i, i < 32 → (bt (ah_i h 43 6) i = true ↔ i < N.n ∧ fr i = true)) ∧ ∀ l, l < N.n → ah_i h 46 l = nI (S.oi l) ∧ (S.bu l = true → ah_i h 47 l = nI (S.si l)) ∧ (S.ou l ≠ 0 → ah_i h 47 l = nI (S.ou l - 1))
theorem cNS_fr {N : Nd} {S : Ns} {fr : Nat → Bool} {h h' : ah_T} (e : ∀ a, (a = 46 ∨ a = 47) → ∀ j, ah_i h' a j = ah_i h a j) (e2 : ∀ j, (j = 5 ∨ j = 6 ∨ j = 14) → ah_i h' 43 j = ah_i h 43 j) (m : cNS N S fr h) : cNS N S fr h' := by
  obtain ⟨m1, m2, m3, m4, m5, m6⟩ := m
  exact ⟨m1, m2, by rw [e2 5 (by omega)]; exact m3, by rw [e2 14 (by omega)]; exact m4, by rw [e2 6 (by omega)]; exact m5, fun l hl => by rw [e 46 (by omega), e 47 (by omega)]; exact m6 l hl⟩
def cKp (N : Nd) (S : Ns) (h : ah_T) : Prop := wfN2 N S ∧ (∀ l, l < N.n → (S.bu l = true → 0 < S.oi l ∧ S.ou l = 0) ∧ (S.ou l ≠ 0 → 0 < S.oi l)) ∧ (∀ i, i < 32 → (bt (ah_i h 53 20) i = true ↔ i < N.n ∧ S.bu i = true)) ∧ (∀ i, i < 32 → (bt (ah_i h 53 21) i = true ↔ i < N.n ∧ S.ou i ≠ 0)) ∧ ∀ l, l < N.n → ah_i h 53 l = nI (S.oi l) ∧ (S.bu l = true → ah_i h 53 (10 + l) = nI (S.si l)) ∧ (S.ou l ≠ 0 → ah_i h 53 (10 + l) = nI (S.ou l - 1))
theorem cKp_fr {N : Nd} {S : Ns} {h h' : ah_T} (e : ∀ j, ah_i h' 53 j = ah_i h 53 j) (m : cKp N S h) : cKp N S h' := by
  unfold cKp at m ⊢
  simp only [e]
  exact m
def ndK (A : Nat → Nat) (l k : Nat) : Nd := ⟨A 246, fun x => A (60 + 3 * x), fun x => if x = l then k else A (61 + 3 * x), A 248, fun x => A (162 + 19 * x), plA A, false⟩
def ndI (A : Nat → Nat) (c k : Nat) : Nd := ⟨A 246 + 1, fun x => if x = A 246 then c else A (60 + 3 * x), fun x => if x = A 246 then k else A (61 + 3 * x), A 248, fun x => A (162 + 19 * x), plA A, true⟩
def ndC (A : Nat → Nat) (k : Nat) (p : Nat → Nat) : Nd := ⟨A 246, fun x => A (60 + 3 * x), fun x => A (61 + 3 * x), A 248 + 1, fun x => if x = A 248 then k else A (162 + 19 * x), fun x m => if x = A 248 then p m else plA A x m, false⟩
section CL2
variable {A : Nat → Nat} {N : Nd} {h g h1 : ah_T} {sp : Nat} {S : Ns}
theorem c_load {Q : Option Value → ah_T → Prop} (hs : Sh h) (t : cTw A h) (e15 : ah_i h 43 15 = nO sp) (hsp : sp ≤ 11) (hq : ∀ h', ceN h h' → cND A (nd0 A) 0 h' → Q none h') : Mt mX3_load [.ref 43] h Q := by
  have w10 := t.1.2.2.1.1
  have w2 := t.2.2.1.2.2.1.1
  have w24 := t.2.1.2.2.1.1
  have vi : ∀ i n, i < n → n < 1000 → vp_in (nI i) n := fun i n h1 h2 => (vp_nI (by omega)).mpr h1
  have l123 : ∀ (q k : Nat) (g : ah_T), k + q = A 248 → ceN h g → ah_i g 43 15 = nO sp → (∀ l, l < A 246 → ah_i g 44 l = nI (A (60 + 3 * l)) ∧ ah_i g 45 l = nI (A (61 + 3 * l))) → cSw A g → (∀ k', k' < k → ah_i g 48 k' = nI (A (162 + 19 * k')) ∧ ∀ m, m < 120 → ah_i g 49 (120 * k' + m) = nO (plA A k' m)) → Wp mX3_load Q 0 0 123 [some (.ref 43), some (.int (nI k)), none] [] g := by
    intro q
    induction q with
    | zero =>
      intro k g hk c f15 lm sw ln
      have e9 : k = A 248 := by omega
      subst e9
      refine T_X3_load_123 c.1 _ ?_
      rw [(c.2.2 8 (by omega)).1, t.2.2.1.2.1]
      (first | refine ⟨fun _ => ?_, fun n_ => absurd (show nI (A 248) ≤ nI (A 248) from nI_le (by omega) (by omega)) n_⟩ | refine ⟨fun n_ => absurd (show nI (A 248) ≤ nI (A 248) from nI_le (by omega) (by omega)) n_, fun _ => ?_⟩ | refine ⟨fun y_ => absurd y_ (show nI (A 248) ≤ nI (A 248) from nI_le (by omega) (by omega)), fun _ => ?_⟩ | refine ⟨fun _ => ?_, fun y_ => absurd y_ (show nI (A 248) ≤ nI (A 248) from nI_le (by omega) (by omega))⟩)
      exact c_dismiss c.1 (cTw_n c t) (sp := sp) (fun l hl _ => (lm l hl).2) (fun l hl => (lm l hl).1) ln sw f15 hsp (fun h' c' d' _ => ⟨rfl, c'.1, hq h' (ceN_t c c') d'⟩)
    | succ q ih =>
      intro k g hk c f15 lm sw ln
      have hk2 : k < A 248 := by omega
      have tg := cTw_n c t
      refine T_X3_load_123 c.1 _ ?_
      rw [(c.2.2 8 (by omega)).1, t.2.2.1.2.1]
      (first | refine ⟨fun _ => ?_, fun n_ => absurd (show ¬ nI (A 248) ≤ nI k from nI_ge (by omega) (by omega)) n_⟩ | refine ⟨fun n_ => absurd (show ¬ nI (A 248) ≤ nI k from nI_ge (by omega) (by omega)) n_, fun _ => ?_⟩ | refine ⟨fun y_ => absurd y_ (show ¬ nI (A 248) ≤ nI k from nI_ge (by omega) (by omega)), fun _ => ?_⟩ | refine ⟨fun _ => ?_, fun y_ => absurd y_ (show ¬ nI (A 248) ≤ nI k from nI_ge (by omega) (by omega))⟩)
      refine n_get c.1 tg.2.2.1 rfl (k := 0) rfl hk2 (by omega) ⟨_, rfl, c.1, ?_⟩
      rw [show ah_i g 9 (19 * k + 0) = nI (A (162 + 19 * k)) from (tg.2.2.1.2.2.2 k hk2).1, nI_clamp (show k < 2 ^ 31 by omega), sh_n c.1 48 3 (by decide) (by decide) rfl]
      refine ⟨vi _ _ (by omega) (by omega), ?_⟩
      intro h40 q40
      have l157 : ∀ (q2 m : Nat) (u : ah_T), m + q2 = 120 → ceN h u → ah_i u 43 15 = nO sp → (∀ l, l < A 246 → ah_i u 44 l = nI (A (60 + 3 * l)) ∧ ah_i u 45 l = nI (A (61 + 3 * l))) → cSw A u → (∀ k', k' < k → ah_i u 48 k' = nI (A (162 + 19 * k')) ∧ ∀ m, m < 120 → ah_i u 49 (120 * k' + m) = nO (plA A k' m)) → ah_i u 48 k = nI (A (162 + 19 * k)) → (∀ m', m' < m → ah_i u 49 (120 * k + m') = nO (plA A k m')) → Wp mX3_load Q 0 0 157 [some (.ref 43), some (.int (nI k)), some (.int (nI m))] [] u := by
        intro q2
        induction q2 with
        | zero =>
          intro m u hm cu u15 lu su nu uk um
          refine T_X3_load_157 cu.1 _ _ ?_
          (first | refine ⟨fun _ => ?_, fun n_ => absurd (show 120 ≤ nI m from nI_le (a := 120) (by omega) (by omega)) n_⟩ | refine ⟨fun n_ => absurd (show 120 ≤ nI m from nI_le (a := 120) (by omega) (by omega)) n_, fun _ => ?_⟩ | refine ⟨fun y_ => absurd y_ (show 120 ≤ nI m from nI_le (a := 120) (by omega) (by omega)), fun _ => ?_⟩ | refine ⟨fun _ => ?_, fun y_ => absurd y_ (show 120 ≤ nI m from nI_le (a := 120) (by omega) (by omega))⟩)
          rw [nI_1]
          refine ih (k + 1) u (by omega) cu u15 lu su (fun k' hk' => ?_)
          by_cases z : k' = k
          · subst z
            exact ⟨uk, fun m' hm' => um m' (by omega)⟩
          · exact nu k' (by omega)
        | succ q2 ih2 =>
          intro m u hm cu u15 lu su nu uk um
          refine T_X3_load_157 cu.1 _ _ ?_
          (first | refine ⟨fun _ => ?_, fun n_ => absurd (show ¬ 120 ≤ nI m from nI_ge (b := 120) (by omega) (by omega)) n_⟩ | refine ⟨fun n_ => absurd (show ¬ 120 ≤ nI m from nI_ge (b := 120) (by omega) (by omega)) n_, fun _ => ?_⟩ | refine ⟨fun y_ => absurd y_ (show ¬ 120 ≤ nI m from nI_ge (b := 120) (by omega) (by omega)), fun _ => ?_⟩ | refine ⟨fun _ => ?_, fun y_ => absurd y_ (show ¬ 120 ≤ nI m from nI_ge (b := 120) (by omega) (by omega))⟩)
          refine c_placeOf cu.1 (cTw_n cu t).2.2.1 rfl rfl hk2 (by omega) ⟨_, rfl, cu.1, ?_⟩
          have c1 : nI k * 120 + nI m = nI (120 * k + m) := by rw [n_120, nI_mul, nI_add]; congr 1; omega
          rw [nI_1, c1, nI_clamp (show 120 * k + m < 2 ^ 31 by omega), sh_n cu.1 49 360 (by decide) (by decide) rfl]
          refine ⟨vi _ _ (by omega) (by omega), ?_⟩
          rintro h48 rfl
          refine ih2 (m + 1) _ (by omega) (ceN_s (by omega) cu) (by rw [ah_i_sn (by omega)]; exact u15) (fun l hl => by rw [ah_i_sn (by omega), ah_i_sn (by omega)]; exact lu l hl) ⟨fun m hm => by rw [ah_i_sn (by omega)]; exact su.1 m hm, fun i hi => by rw [ah_i_sn (by omega)]; exact su.2 i hi⟩ (fun k' hk' => ?_) (by rw [ah_i_sn (by omega)]; exact uk) (fun m' hm' => ?_)
          · rw [ah_i_sn (by omega)]
            exact ⟨(nu k' hk').1, fun m2 hm2 => by rw [ah_i_sn (by omega)]; exact (nu k' hk').2 m2 hm2⟩
          · rw [ah_i_si]
            by_cases z : m' = m
            · subst z; rw [if_pos ⟨rfl, rfl⟩]
            · rw [if_neg (by omega)]; exact um m' (by omega)
      refine l157 120 0 h40 (by omega) (by rw [q40]; exact ceN_s (by omega) c) (by rw [q40, ah_i_sn (by omega)]; exact f15) (fun l hl => by rw [q40, ah_i_sn (by omega), ah_i_sn (by omega)]; exact lm l hl) ⟨fun m hm => by rw [q40, ah_i_sn (by omega)]; exact sw.1 m hm, fun i hi => by rw [q40, ah_i_sn (by omega)]; exact sw.2 i hi⟩ (fun k' hk' => ?_) (by rw [q40, ah_i_ss]) (fun m' hm' => by omega)
      rw [q40, ah_i_sn (by omega)]
      exact ⟨(ln k' hk').1, fun m2 hm2 => by rw [ah_i_sn (by omega)]; exact (ln k' hk').2 m2 hm2⟩
  have l79 : ∀ (k : Nat) (g : ah_T), k ≤ A 247 → ceN h g → ah_i g 43 15 = nO sp → (∀ l, l < A 246 → ah_i g 44 l = nI (A (60 + 3 * l)) ∧ ah_i g 45 l = nI (A (61 + 3 * l))) → (∀ m, m < 120 → ah_i g 50 m = nO (fsw A m k)) → (∀ i, k ≤ i → i < A 247 → ah_i g 51 i = nO (fsw A (A (91 + 3 * i)) (i + 1))) → Wp mX3_load Q 0 0 79 [some (.ref 43), some (.int (nO k)), none] [] g := by
    intro k
    induction k with
    | zero =>
      intro g hk c f15 lm s0 s1
      refine T_X3_load_79 c.1 _ ?_
      (first | refine ⟨fun _ => ?_, fun n_ => absurd (show nO 0 < 0 by decide) n_⟩ | refine ⟨fun n_ => absurd (show nO 0 < 0 by decide) n_, fun _ => ?_⟩ | refine ⟨fun y_ => absurd y_ (show nO 0 < 0 by decide), fun _ => ?_⟩ | refine ⟨fun _ => ?_, fun y_ => absurd y_ (show nO 0 < 0 by decide)⟩)
      exact l123 (A 248) 0 g (by omega) c f15 lm ⟨s0, fun i hi => s1 i (by omega) hi⟩ (fun k' hk' => by omega)
    | succ i ih =>
      intro g hk c f15 lm s0 s1
      have tg := cTw_n c t
      obtain ⟨v1, v2, v3⟩ := t.2.1.2.2.1.2 i (by omega)
      refine T_X3_load_79 c.1 _ ?_
      rw [nO_s]
      (first | refine ⟨fun _ => ?_, fun n_ => absurd (show ¬ nI i < 0 from nI_pos (by omega)) n_⟩ | refine ⟨fun n_ => absurd (show ¬ nI i < 0 from nI_pos (by omega)) n_, fun _ => ?_⟩ | refine ⟨fun y_ => absurd y_ (show ¬ nI i < 0 from nI_pos (by omega)), fun _ => ?_⟩ | refine ⟨fun _ => ?_, fun y_ => absurd y_ (show ¬ nI i < 0 from nI_pos (by omega))⟩)
      refine s_get c.1 tg.2.1 rfl (k := 1) rfl (by omega) (by omega) ⟨_, rfl, c.1, ?_⟩
      have fl := fsw_le (A := A) (m := A (91 + 3 * i)) (A 247 - (i + 1)) (i + 1) (by omega)
      rw [show 90 + 3 * i + 1 = 91 + 3 * i by omega, nI_clamp (show A (91 + 3 * i) < 2 ^ 31 by omega), nI_clamp (show i < 2 ^ 31 by omega), s0 _ v2, sh_n c.1 50 120 (by decide) (by decide) rfl, sh_n c.1 51 24 (by decide) (by decide) rfl, nO_m1]
      refine ⟨vi _ _ v2 (by omega), vi _ _ (by omega) (by omega), ?_⟩
      intro h25 q25
      have s25 : Sh h25 := by rw [q25]; exact sh_si c.1
      rw [sh_n s25 50 120 (by decide) (by decide) rfl]
      refine ⟨vi _ _ v2 (by omega), ?_⟩
      rintro h29 rfl
      subst q25
      refine ih _ (by omega) (ceN_s (by omega) (ceN_s (by omega) c)) (by rw [ah_i_sn (by omega), ah_i_sn (by omega)]; exact f15) (fun l hl => by rw [ah_i_sn (by omega), ah_i_sn (by omega), ah_i_sn (by omega), ah_i_sn (by omega)]; exact lm l hl) (fun m hm => ?_) (fun j hj hj2 => ?_)
      · rw [ah_i_si]
        by_cases z : m = A (91 + 3 * i)
        · rw [if_pos ⟨rfl, z⟩, z, fsw_yes (by omega) rfl, nO_s]
        · rw [if_neg (fun y => z y.2), ah_i_sn (by omega), s0 m hm, fsw_no (by omega) (fun y => z y.symm)]
      · rw [ah_i_sn (by omega), ah_i_si]
        by_cases z : j = i
        · rw [if_pos ⟨rfl, z⟩, z]
        · rw [if_neg (fun y => z y.2)]
          exact s1 j (by omega) hj2
  have l2 : ∀ (q l : Nat) (g : ah_T), l + q = A 246 → ceN h g → ah_i g 43 15 = nO sp → (∀ l', l' < l → ah_i g 44 l' = nI (A (60 + 3 * l')) ∧ ah_i g 45 l' = nI (A (61 + 3 * l'))) → Wp mX3_load Q 0 0 2 [some (.ref 43), some (.int (nI l)), none] [] g := by
    intro q
    induction q with
    | zero =>
      intro l g hl c f15 lm
      have e9 : l = A 246 := by omega
      subst e9
      have n50 : ah_n g 50 = 120 := sh_n c.1 50 120 (by decide) (by decide) rfl
      refine T_X3_load_2 c.1 _ ?_
      rw [(c.2.2 4 (by omega)).1, t.1.2.1]
      (first | refine ⟨fun _ => ?_, fun n_ => absurd (show nI (A 246) ≤ nI (A 246) from nI_le (by omega) (by omega)) n_⟩ | refine ⟨fun n_ => absurd (show nI (A 246) ≤ nI (A 246) from nI_le (by omega) (by omega)) n_, fun _ => ?_⟩ | refine ⟨fun y_ => absurd y_ (show nI (A 246) ≤ nI (A 246) from nI_le (by omega) (by omega)), fun _ => ?_⟩ | refine ⟨fun _ => ?_, fun y_ => absurd y_ (show nI (A 246) ≤ nI (A 246) from nI_le (by omega) (by omega))⟩)
      refine c_fillA c.1 50 (-1) (sh_k c.1 50 14 (by decide) rfl) (by rw [n50]; decide) ⟨rfl, sh_fl c.1, ?_⟩
      rw [n50, ah_i_fl, if_neg (by omega), (c.2.2 6 (by omega)).1, t.2.1.2.1, nO_pred]
      refine l79 (A 247) _ (Nat.le_refl _) ⟨sh_fl c.1, by rw [x_fl, c.2.1], fun a ha => eqc_fl (c.2.2 a ha) (by omega)⟩ (by rw [ah_i_fl, if_neg (by omega)]; exact f15) (fun l' hl' => by rw [ah_i_fl, if_neg (by omega), ah_i_fl, if_neg (by omega)]; exact lm l' hl') (fun m hm => ?_) (fun i h1 h2 => by omega)
      rw [ah_i_fl, if_pos (by omega), fsw_end (Nat.le_refl _)]
      rfl
    | succ q ih =>
      intro l g hl c f15 lm
      have hl2 : l < A 246 := by omega
      have tg := cTw_n c t
      refine T_X3_load_2 c.1 _ ?_
      rw [(c.2.2 4 (by omega)).1, t.1.2.1]
      (first | refine ⟨fun _ => ?_, fun n_ => absurd (show ¬ nI (A 246) ≤ nI l from nI_ge (by omega) (by omega)) n_⟩ | refine ⟨fun n_ => absurd (show ¬ nI (A 246) ≤ nI l from nI_ge (by omega) (by omega)) n_, fun _ => ?_⟩ | refine ⟨fun y_ => absurd y_ (show ¬ nI (A 246) ≤ nI l from nI_ge (by omega) (by omega)), fun _ => ?_⟩ | refine ⟨fun _ => ?_, fun y_ => absurd y_ (show ¬ nI (A 246) ≤ nI l from nI_ge (by omega) (by omega))⟩)
      refine lm_get c.1 tg.1 rfl (k := 0) rfl hl2 (by omega) ⟨_, rfl, c.1, ?_⟩
      rw [nI_clamp (show l < 2 ^ 31 by omega), sh_n c.1 44 10 (by decide) (by decide) rfl, Nat.add_zero, nI_1]
      refine ⟨vi _ _ (by omega) (by omega), ?_⟩
      intro h9 q9
      have c9 : ceN h h9 := by rw [q9]; exact ceN_s (by omega) c
      refine lm_get c9.1 (cTw_n c9 t).1 rfl (k := 1) rfl hl2 (by omega) ⟨_, rfl, c9.1, ?_⟩
      rw [sh_n c9.1 45 10 (by decide) (by decide) rfl, show 60 + 3 * l + 1 = 61 + 3 * l by omega]
      refine ⟨vi _ _ (by omega) (by omega), ?_⟩
      rintro h16 rfl
      refine ih (l + 1) _ (by omega) (ceN_s (by omega) c9) (by rw [ah_i_sn (by omega), q9, ah_i_sn (by omega)]; exact f15) (fun l' hl' => ?_)
      by_cases z : l' = l
      · subst z
        refine ⟨by rw [ah_i_sn (by omega), q9, ah_i_ss], by rw [ah_i_ss]⟩
      · rw [ah_i_sn (by omega), q9, ah_i_sn (by omega), ah_i_sn (by omega), ah_i_sn (by omega)]
        exact lm l' (by omega)
  exact T_X3_load hs (l2 (A 246) 0 h (by omega) (ceN_r hs) e15 (fun l' hl' => by omega))
theorem c_restart {Q : Option Value → ah_T → Prop} (hs : Sh h) (t : cTw A h) (d : cND A N sp h) (hq : ∀ h', ceN h h' → cND A N sp h' → cNS N (nst0 A N) (nst0 A N).bu h' → (∀ a, a ≠ 43 → a ≠ 46 → a ≠ 47 → ∀ j, ah_i h' a j = ah_i h a j) → Q none h') : Mt mX3_restart [.ref 43] h Q := by
  obtain ⟨wl1, wl2⟩ := t.1.2.2.1
  have d' := d
  obtain ⟨⟨d0, d1, d2, d3⟩, ⟨f1, f2, f3, f4, f5, f6, f7, f8, f9⟩, d4, d5, d6, d7, d8, d9⟩ := d'
  have fin : ∀ (u : ah_T) (v : Int32), ceN h u → (∀ a, a ≠ 43 → a ≠ 46 → a ≠ 47 → ∀ j, ah_i u a j = ah_i h a j) → (∀ j, ah_i u 43 j = ah_i h 43 j) → (∀ l, l < N.n → ah_i u 46 l = nI ((nst0 A N).oi l) ∧ ah_i u 47 l = 0) → (∀ i, i < 32 → (bt v i = true ↔ i < N.n ∧ (nst0 A N).bu i = true)) → ∀ h3 h6 h9 h12, h3 = ah_si u 43 5 v → h6 = ah_si h3 43 6 (ah_i h3 43 5) → h9 = ah_si h6 43 14 0 → h12 = ah_si h9 43 7 0 → Q none h12 := by
    rintro u v cu ko k43 kl kv h3 h6 h9 h12 rfl rfl rfl rfl
    rw [ah_i_ss]
    have kk : ∀ a, a ≠ 43 → ∀ j, ah_i (ah_si (ah_si (ah_si (ah_si u 43 5 v) 43 6 v) 43 14 0) 43 7 0) a j = ah_i u a j := fun a n j => by rw [ah_i_sn (by omega), ah_i_sn (by omega), ah_i_sn (by omega), ah_i_sn (by omega)]
    have e0 : ∀ l, (nst0 A N).si l = 0 ∧ (nst0 A N).ou l = 0 := fun l => ⟨rfl, rfl⟩
    have eo : ∀ l, l < N.n → 0 < (nst0 A N).oi l ∧ (nst0 A N).oi l ≤ 240 := fun l hl => by
      show 0 < (if l < A 246 then A (62 + 3 * l) else 240) ∧ (if l < A 246 then A (62 + 3 * l) else 240) ≤ 240
      split
      · have := wl2 l (by assumption); omega
      · omega
    refine hq _ (ceN_s (by omega) (ceN_s (by omega) (ceN_s (by omega) (ceN_s (by omega) cu)))) (cND_fr (fun a ha j => ?_) (fun j hj => ?_) d) ⟨fun l hl => ⟨by rw [(e0 l).1]; omega, by rw [(e0 l).2]; omega, (eo l hl).2⟩, fun l hl => ⟨fun _ => ⟨(eo l hl).1, (e0 l).2⟩, fun _ => (eo l hl).1⟩, fun i hi => ?_, fun i hi => ?_, fun i hi => ?_, fun l hl => ⟨?_, fun _ => ?_, fun y => absurd (e0 l).2 y⟩⟩ (fun a n1 n2 n3 j => by rw [kk a n1, ko a n1 n2 n3])
    · rw [kk a (by omega), ko a (by omega) (by omega) (by omega)]
    · rw [ah_i_sn (by omega), ah_i_sn (by omega), ah_i_sn (by omega), ah_i_sn (by omega), k43]
    · rw [ah_i_sn (by omega), ah_i_sn (by omega), ah_i_sn (by omega), ah_i_ss]; exact kv i hi
    · rw [ah_i_sn (by omega), ah_i_ss, b_0]
      exact ⟨fun y => absurd y (by decide), fun y => absurd (e0 i).2 y.2⟩
    · rw [ah_i_sn (by omega), ah_i_sn (by omega), ah_i_ss]; exact kv i hi
    · rw [kk 46 (by decide)]; exact (kl l hl).1
    · rw [kk 47 (by decide), (kl l hl).2, (e0 l).1]; rfl
  have l2 : ∀ (q l : Nat) (u : ah_T), l + q = N.n → ceN h u → (∀ a, a ≠ 43 → a ≠ 46 → a ≠ 47 → ∀ j, ah_i u a j = ah_i h a j) → (∀ j, ah_i u 43 j = ah_i h 43 j) → (∀ l', l' < l → ah_i u 46 l' = nI ((nst0 A N).oi l') ∧ ah_i u 47 l' = 0) → Wp mX3_restart Q 0 0 2 [some (.ref 43), some (.int (nI l))] [] u := by
    intro q
    induction q with
    | zero =>
      intro l u hl cu ko k43 kl
      have e9 : l = N.n := by omega
      subst e9
      have tu := cTw_n cu t
      refine T_X3_restart_2 cu.1 _ ?_
      rw [k43 0, d4, tu.1.2.1]
      (first | refine ⟨fun _ => ?_, fun n_ => absurd (show nI N.n ≤ nI N.n from nI_le (by omega) (by omega)) n_⟩ | refine ⟨fun n_ => absurd (show nI N.n ≤ nI N.n from nI_le (by omega) (by omega)) n_, fun _ => ?_⟩ | refine ⟨fun y_ => absurd y_ (show nI N.n ≤ nI N.n from nI_le (by omega) (by omega)), fun _ => ?_⟩ | refine ⟨fun _ => ?_, fun y_ => absurd y_ (show nI N.n ≤ nI N.n from nI_le (by omega) (by omega))⟩)
      by_cases z : A 246 < N.n
      · (first | refine ⟨fun _ => ?_, fun n_ => absurd (show ¬ nI N.n ≤ nI (A 246) from nI_ge z (by omega)) n_⟩ | refine ⟨fun n_ => absurd (show ¬ nI N.n ≤ nI (A 246) from nI_ge z (by omega)) n_, fun _ => ?_⟩ | refine ⟨fun y_ => absurd y_ (show ¬ nI N.n ≤ nI (A 246) from nI_ge z (by omega)), fun _ => ?_⟩ | refine ⟨fun _ => ?_, fun y_ => absurd y_ (show ¬ nI N.n ≤ nI (A 246) from nI_ge z (by omega))⟩)
        intro h3 q3 h6 q6 h9 q9 h12 q12
        refine fin u _ cu ko k43 kl (fun i hi => ?_) h3 h6 h9 h12 q3 q6 q9 q12
        rw [b_1sh (by omega) hi, decide_eq_true_eq]
        show _ ↔ _ ∧ (N.gu && decide (i + 1 = N.n)) = true
        rw [f3, decide_eq_true z, Bool.true_and, decide_eq_true_eq]
        constructor
        · intro y; omega
        · intro y; omega
      · (first | refine ⟨fun _ => ?_, fun n_ => absurd (show nI N.n ≤ nI (A 246) from nI_le (by omega) (by omega)) n_⟩ | refine ⟨fun n_ => absurd (show nI N.n ≤ nI (A 246) from nI_le (by omega) (by omega)) n_, fun _ => ?_⟩ | refine ⟨fun y_ => absurd y_ (show nI N.n ≤ nI (A 246) from nI_le (by omega) (by omega)), fun _ => ?_⟩ | refine ⟨fun _ => ?_, fun y_ => absurd y_ (show nI N.n ≤ nI (A 246) from nI_le (by omega) (by omega))⟩)
        intro h3 q3 h6 q6 h9 q9 h12 q12
        refine fin u 0 cu ko k43 kl (fun i hi => ?_) h3 h6 h9 h12 q3 q6 q9 q12
        rw [b_0]
        show _ ↔ _ ∧ (N.gu && decide (i + 1 = N.n)) = true
        rw [f3, decide_eq_false z, Bool.false_and]
        exact ⟨fun y => absurd y (by decide), fun y => absurd y.2 (by decide)⟩
    | succ q ih =>
      intro l u hl cu ko k43 kl
      have hl2 : l < N.n := by omega
      have tu := cTw_n cu t
      have vl : vp_in (nI l) 10 := (vp_nI (by omega)).mpr (by omega)
      have st : ∀ h29 h33 v, v = nI ((nst0 A N).oi l) → h29 = ah_si u 46 l v → h33 = ah_si h29 47 l 0 → Wp mX3_restart Q 0 0 2 [some (.ref 43), some (.int (nI (l + 1)))] [] h33 := by
        rintro h29 h33 v ev rfl rfl
        refine ih (l + 1) _ (by omega) (ceN_s (by omega) (ceN_s (by omega) cu)) (fun a n1 n2 n3 j => by rw [ah_i_sn (by omega), ah_i_sn (by omega)]; exact ko a n1 n2 n3 j) (fun j => by rw [ah_i_sn (by omega), ah_i_sn (by omega)]; exact k43 j) (fun l' hl' => ?_)
        by_cases z : l' = l
        · subst z
          refine ⟨by rw [ah_i_sn (by omega), ah_i_ss, ev], by rw [ah_i_ss]⟩
        · rw [ah_i_sn (by omega), ah_i_sn (by omega), ah_i_sn (by omega), ah_i_sn (by omega)]
          exact kl l' (by omega)
      refine T_X3_restart_2 cu.1 _ ?_
      rw [k43 0, d4, tu.1.2.1]
      (first | refine ⟨fun _ => ?_, fun n_ => absurd (show ¬ nI N.n ≤ nI l from nI_ge (by omega) (by omega)) n_⟩ | refine ⟨fun n_ => absurd (show ¬ nI N.n ≤ nI l from nI_ge (by omega) (by omega)) n_, fun _ => ?_⟩ | refine ⟨fun y_ => absurd y_ (show ¬ nI N.n ≤ nI l from nI_ge (by omega) (by omega)), fun _ => ?_⟩ | refine ⟨fun _ => ?_, fun y_ => absurd y_ (show ¬ nI N.n ≤ nI l from nI_ge (by omega) (by omega))⟩)
      rw [nI_1, nI_clamp (show l < 2 ^ 31 by omega)]
      by_cases z : l < A 246
      · (first | refine ⟨fun _ => ?_, fun n_ => absurd (show ¬ nI (A 246) ≤ nI l from nI_ge z (by omega)) n_⟩ | refine ⟨fun n_ => absurd (show ¬ nI (A 246) ≤ nI l from nI_ge z (by omega)) n_, fun _ => ?_⟩ | refine ⟨fun y_ => absurd y_ (show ¬ nI (A 246) ≤ nI l from nI_ge z (by omega)), fun _ => ?_⟩ | refine ⟨fun _ => ?_, fun y_ => absurd y_ (show ¬ nI (A 246) ≤ nI l from nI_ge z (by omega))⟩)
        refine lm_get cu.1 tu.1 rfl (k := 2) rfl z (by omega) ⟨_, rfl, cu.1, ?_⟩
        rw [sh_n cu.1 46 10 (by decide) (by decide) rfl, show 60 + 3 * l + 2 = 62 + 3 * l by omega]
        refine ⟨vl, ?_⟩
        intro h40 q40
        have s40 : Sh h40 := by rw [q40]; exact sh_si cu.1
        rw [sh_n s40 47 10 (by decide) (by decide) rfl]
        refine ⟨vl, ?_⟩
        intro h44 q44
        exact st h40 h44 _ (by show _ = nI (if l < A 246 then A (62 + 3 * l) else 240); rw [if_pos z]) q40 q44
      · (first | refine ⟨fun _ => ?_, fun n_ => absurd (show nI (A 246) ≤ nI l from nI_le (by omega) (by omega)) n_⟩ | refine ⟨fun n_ => absurd (show nI (A 246) ≤ nI l from nI_le (by omega) (by omega)) n_, fun _ => ?_⟩ | refine ⟨fun y_ => absurd y_ (show nI (A 246) ≤ nI l from nI_le (by omega) (by omega)), fun _ => ?_⟩ | refine ⟨fun _ => ?_, fun y_ => absurd y_ (show nI (A 246) ≤ nI l from nI_le (by omega) (by omega))⟩)
        rw [sh_n cu.1 46 10 (by decide) (by decide) rfl]
        refine ⟨vl, ?_⟩
        intro h29 q29
        have s29 : Sh h29 := by rw [q29]; exact sh_si cu.1
        rw [sh_n s29 47 10 (by decide) (by decide) rfl]
        refine ⟨vl, ?_⟩
        intro h33 q33
        exact st h29 h33 _ (by show _ = nI (if l < A 246 then A (62 + 3 * l) else 240); rw [if_neg z]; rfl) q29 q33
  exact T_X3_restart hs (l2 N.n 0 h (by omega) (ceN_r hs) (fun _ _ _ _ _ => rfl) (fun _ => rfl) (fun l' hl' => by omega))
end CL2
