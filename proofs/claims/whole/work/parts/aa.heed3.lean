/-! ===== the class heeds ===== -/
section HE
variable {h : ah_T} {A : Nat → Nat}
def lwR0 (A : Nat → Nat) (h : ah_T) (r : Option Nat) : Prop := match lawL A with
  | none => r = none
  | some cls => ∃ x, r = some x ∧ tx h x false cls ∧ ∀ cl ∈ cls, clL cl
def hdF (h h' : ah_T) : Prop := Sh h' ∧ ah_x h' = ah_x h ∧ ∀ a, a ≠ 38 → a ≠ 40 → a ≠ 41 → a ≠ 42 → eqc h h' a
theorem tp_fr {h1 : ah_T} {L : Option (List Cl)} {wi mo g : Nat} (e38 : eqc h h1 38) (e39 : ∀ j, ah_l h1 39 j = ah_l h 39 j) (eb : ∀ a, 123 ≤ a → eqc h h1 a) (hx : ah_x h ≤ ah_x h1) (tp : tpO L wi mo g h) : tpO L wi mo g h1 := by
  obtain ⟨l0, t1, t2, t3, t4, t5, t6⟩ := tp
  refine ⟨?_, by rw [e38.1]; exact t1, by rw [e38.1]; exact t2, by rw [e38.2.1]; exact t3, t4, t5, fun p hp => ?_⟩
  · cases L with
    | none => exact (e38.2.2.1 3).trans l0
    | some cls =>
      obtain ⟨x, ex, tt, hL⟩ := l0
      have := tt.1.1
      exact ⟨x, by rw [e38.2.2.1]; exact ex, tx_fr (fun i hi => eb _ (by omega)) hx tt, hL⟩
  · obtain ⟨v, m1, m2, m3⟩ := t6 p hp
    refine ⟨v, by rw [e39]; exact m1, m2, fun cls x eL ex what w hw wr q6 q7 q => ?_⟩
    subst eL
    rw [e38.2.2.1] at ex
    obtain ⟨x', ex', tt, hL⟩ := l0
    have e : x = x' := Option.some.inj (ex.symm.trans ex')
    subst e
    have h123 := tt.1.1
    rw [(eb (x + 3) (by omega)).1] at q
    exact m3 cls x rfl ex what w hw wr q6 q7 q
theorem law_same {L : Option (List Cl)} {r : Option Nat} (l0 : lwO L h) (r0 : lwR0 A h r) (e : r = ah_r h 38 3) : lwO (lawL A) h ∧ (L = none ↔ lawL A = none) ∧ ∀ cls cls', L = some cls → lawL A = some cls' → ∀ what w, (∀ k, k < 8 → -1000000000 ≤ w k ∧ w k ≤ 1000000000) → ansV cls what w = ansV cls' what w := by
  unfold lwR0 at r0
  cases eA : lawL A with
  | none =>
    rw [eA] at r0
    have r1 : r = none := r0
    have e3 : ah_r h 38 3 = none := by rw [← e, r1]
    refine ⟨e3, ⟨fun _ => rfl, fun _ => ?_⟩, fun cls cls' _ q => (nomatch q)⟩
    cases L with
    | none => rfl
    | some cls =>
      obtain ⟨x, ex, _⟩ := l0
      rw [e3] at ex; cases ex
  | some cls' =>
    rw [eA] at r0
    obtain ⟨x, ex, tt, hL⟩ := r0
    have e3 : ah_r h 38 3 = some x := by rw [← e, ex]
    refine ⟨⟨x, e3, tt, hL⟩, ⟨fun q => ?_, fun q => (nomatch q)⟩, fun cls cls2 q1 q2 what w hw => ?_⟩
    · subst q
      have l1 : ah_r h 38 3 = none := l0
      rw [e3] at l1; cases l1
    · subst q1
      cases q2
      obtain ⟨y, ey, t2, hL2⟩ := l0
      have e : y = x := Option.some.inj (ey.symm.trans e3)
      subst e
      exact ansV_same t2 tt hL2 hL hw what
theorem ansA_same {L : Option (List Cl)} {r : Option Nat} (l0 : lwO L h) (r0 : lwR0 A h r) (e : r = ah_r h 38 3) (what : Nat) {w : Nat → Int} (hw : ∀ k, k < 8 → -1000000000 ≤ w k ∧ w k ≤ 1000000000) : ansA L what w = ansA (lawL A) what w := by
  obtain ⟨l1, l2, l3⟩ := law_same l0 r0 e
  cases L with
  | none => rw [l2.mp rfl]
  | some cls =>
    cases eA : lawL A with
    | none => exact absurd (l2.mpr eA) (by simp)
    | some cls' =>
      have l3' := l3 cls cls' rfl eA what w hw
      rw [eA] at l1
      obtain ⟨x, ex, tt, hL⟩ := l0
      obtain ⟨y, ey, t2, hL2⟩ := l1
      have a1 := ansA_some (what := what) (w := w) hL
      have a2 := ansA_some (what := what) (w := w) hL2
      omega
theorem tp_same {L : Option (List Cl)} {g : Nat} {r : Option Nat} (tp : tpO L (A 242) (A 244) g h) (r0 : lwR0 A h r) (e : r = ah_r h 38 3) : tpO (lawL A) (A 242) (A 244) g h := by
  obtain ⟨l0, t1, t2, t3, t4, t5, t6⟩ := tp
  obtain ⟨l1, l2, l3⟩ := law_same l0 r0 e
  refine ⟨l1, t1, t2, t3, t4, t5, fun p hp => ?_⟩
  obtain ⟨v, m1, m2, m3⟩ := t6 p hp
  refine ⟨v, m1, m2, fun cls' x eL ex what w hw wr q6 q7 q => ?_⟩
  cases L with
  | none => rw [l2.mp rfl] at eL; cases eL
  | some cls =>
    rw [← l3 cls cls' rfl eL what w (wRg_sm wr q6 q7 t4 t5)]
    exact m3 cls x rfl ex what w hw wr q6 q7 q
theorem hf_same {L : Option (List Cl)} {r : Option Nat} (wl : wfL A) (sg : ∀ a b, a < 12 → b < 12 → -1 ≤ sgv A a b ∧ sgv A a b ≤ 11) (h1 : A 242 ≤ 9) (h2 : A 244 ≤ 9) (l0 : lwO L h) (r0 : lwR0 A h r) (e : r = ah_r h 38 3) (hf : hfO L (A 242) (A 244) A h) : hfO (lawL A) (A 242) (A 244) A h := by
  obtain ⟨wl1, wl2⟩ := wl
  have sm : ∀ {l k o ne la mi : Int}, (-1 ≤ l ∧ l ≤ 10) → (0 ≤ k ∧ k ≤ 7) → (-1 ≤ o ∧ o ≤ 6) → (-1 ≤ ne ∧ ne ≤ 14) → (-1 ≤ la ∧ la ≤ 2) → (0 ≤ mi ∧ mi ≤ 127) → ∀ k', k' < 8 → -1000000000 ≤ (wQ l k o ne la mi (A 242) (A 244)) k' ∧ (wQ l k o ne la mi (A 242) (A 244)) k' ≤ 1000000000 := fun a b c d f g => wRg_sm (wQ_rg a b c d f g) rfl rfl h1 h2
  obtain ⟨f1, f2, f3⟩ := hf
  refine ⟨fun mi la l hm hla hl => ?_, fun mi k c hm hk hc => ?_, fun mi l hm hl => ?_⟩
  · refine (f1 mi la l hm hla hl).imp id (fun y i hi => (y i hi).trans ?_)
    by_cases z : i < A 246
    · obtain ⟨u1, u2, _⟩ := wl2 l hl
      obtain ⟨v1, v2, _⟩ := wl2 i z
      have s := sg _ _ u1 v1
      rw [ansA_same l0 r0 e 0 (sm ⟨by omega, by omega⟩ ⟨by omega, by omega⟩ ⟨by omega, by omega⟩ ⟨by omega, by omega⟩ ⟨by omega, by omega⟩ ⟨by omega, by omega⟩)]
    · exact ⟨fun q => absurd q.1 z, fun q => absurd q.1 z⟩
  · refine (f2 mi k c hm hk hc).imp id (fun y i hi => (y i hi).trans ?_)
    by_cases z : i < A 246
    · obtain ⟨v1, v2, _⟩ := wl2 i z
      have s := sg _ _ v1 hc
      rw [ansA_same l0 r0 e 0 (sm ⟨by omega, by omega⟩ ⟨by omega, by omega⟩ ⟨by omega, by omega⟩ ⟨by omega, by omega⟩ ⟨by omega, by omega⟩ ⟨by omega, by omega⟩)]
    · exact ⟨fun q => absurd q.1 z, fun q => absurd q.1 z⟩
  · refine (f3 mi l hm hl).imp id (fun y => y.trans ?_)
    obtain ⟨u1, u2, _⟩ := wl2 l hl
    unfold thV
    rw [ansA_same l0 r0 e 2 (sm ⟨by omega, by omega⟩ ⟨by omega, by omega⟩ ⟨by omega, by omega⟩ ⟨by omega, by omega⟩ ⟨by omega, by omega⟩ ⟨by omega, by omega⟩)]
theorem gen_lt {e g G : Nat} (m2 : e < (g + 1) * 536870912) (eG : G = g + 1) : e < (G + 1) * 536870912 ∧ ∀ k, ¬ e / 16 = G * 33554432 + k := by
  subst eG
  exact ⟨Nat.lt_of_lt_of_le m2 (Nat.mul_le_mul_right _ (Nat.le_succ _)), fun k q => by omega⟩
theorem c_heed {Q : Option Value → ah_T → Prop} (hs : Sh h) {L : Option (List Cl)} {wi mo g : Nat} {x1 : Int32} (tp : tpO L wi mo g h) (hg : g < 2 ^ 30) (lg : lgO A h) (wl : wfL A) (sg : ∀ a b, a < 12 → b < 12 → -1 ≤ sgv A a b ∧ sgv A a b ≤ 11) (hk : x1 = 0 → hfO L wi mo A h)
    (hq : ∀ h' g', hdF h h' → g' ≤ g + 1 → tpO (lawL A) (A 242) (A 244) g' h' → hfO (lawL A) (A 242) (A 244) A h' → Q none h') : Mt mX8_heed [.ref 38, .int x1] h Q := by
  have n40 : ∀ {g : ah_T}, Sh g → ah_n g 40 = 2400 := fun hs => sh_n hs 40 2400 (by decide) (by decide) rfl
  have n41 : ∀ {g : ah_T}, Sh g → ah_n g 41 = 8640 := fun hs => sh_n hs 41 8640 (by decide) (by decide) rfl
  have n42 : ∀ {g : ah_T}, Sh g → ah_n g 42 = 1200 := fun hs => sh_n hs 42 1200 (by decide) (by decide) rfl
  have lg' := lg
  obtain ⟨_, _, _, _, l5, l6, l7, l8, _⟩ := lg'
  have k107 : ∀ (hh : ah_T) (g' : Nat), hdF h hh → g' ≤ g + 1 → tpO (lawL A) (A 242) (A 244) g' hh → Wp mX8_heed Q 0 0 107 [some (.ref 38), none, none, none, none] [] hh := by
    intro hh g' fh hg' tp'
    have fin : ∀ m40 m41 m42, (∀ mi, mi < 120 → hlk (usd hh 0) mi * 20 + 20 ≤ m40) → (∀ mi, mi < 120 → hlk (usd hh 0) mi * 72 + 72 ≤ m41) → (∀ mi, mi < 120 → hlk (usd hh 2) mi * 10 + 10 ≤ m42) → Q none (ab_fl (ab_fl (ab_fl hh 40 0 m40 (-1)) 41 0 m41 (-1)) 42 0 m42 (-1)) := by
      intro m40 m41 m42 c1 c2 c3
      obtain ⟨u, eu⟩ : ∃ u, u = ab_fl (ab_fl (ab_fl hh 40 0 m40 (-1)) 41 0 m41 (-1)) 42 0 m42 (-1) := ⟨_, rfl⟩
      have ce : ∀ a, a ≠ 40 → a ≠ 41 → a ≠ 42 → eqc hh u a := fun a n1 n2 n3 => by rw [eu]; exact eqc_fl (eqc_fl (eqc_fl eqc_rfl n1) n2) n3
      have su : Sh u := by rw [eu]; exact sh_fl (sh_fl (sh_fl fh.1))
      have xu : ah_x u = ah_x hh := by rw [eu]; rfl
      have us : ∀ what, usd u what = usd hh what := by
        intro what
        unfold usd
        rw [(ce 38 (by decide) (by decide) (by decide)).2.2.1]
        cases e : ah_r hh 38 3 with
        | none => rfl
        | some x =>
          have hx : 123 ≤ x := by
            have l0 := tp'.1
            cases eA : lawL A with
            | none =>
              rw [eA] at l0
              have l1 : ah_r hh 38 3 = none := l0
              rw [e] at l1; cases l1
            | some cls =>
              rw [eA] at l0
              obtain ⟨y, ey, tt, _⟩ := l0
              have : x = y := Option.some.inj (e.symm.trans ey)
              have := tt.1.1
              omega
          exact (ce (x + 3) (by omega) (by omega) (by omega)).1 what
      have i40 : ∀ j, j < m40 → ah_i u 40 j = -1 := fun j hj => by rw [eu, ah_i_fl, if_neg (by omega), ah_i_fl, if_neg (by omega), ah_i_fl, if_pos ⟨rfl, by omega, hj⟩]
      have i41 : ∀ j, j < m41 → ah_i u 41 j = -1 := fun j hj => by rw [eu, ah_i_fl, if_neg (by omega), ah_i_fl, if_pos ⟨rfl, by omega, hj⟩]
      have i42 : ∀ j, j < m42 → ah_i u 42 j = -1 := fun j hj => by rw [eu, ah_i_fl, if_pos ⟨rfl, by omega, hj⟩]
      rw [← eu]
      clear eu
      have wl1 := wl.1
      refine hq u g' ⟨su, xu.trans fh.2.1, fun a n1 n2 n3 n4 => eqc_trans (fh.2.2 a n1 n2 n3 n4) (ce a n2 n3 n4)⟩ hg' (tp_fr (ce 38 (by decide) (by decide) (by decide)) (ce 39 (by decide) (by decide) (by decide)).2.1 (fun a ha => ce a (by omega) (by omega) (by omega)) (Nat.le_of_eq xu.symm) tp') ⟨fun mi la l hm hla hl => .inl ?_, fun mi k c hm hk hc => .inl ?_, fun mi l hm hl => .inl ?_⟩
      · rw [us]; exact i40 _ (by have := c1 mi hm; omega)
      · rw [us]; exact i41 _ (by have := c2 mi hm; omega)
      · rw [us]; exact i42 _ (by have := c3 mi hm; omega)
    have h0 : ∀ {u : Int32} {mi : Nat}, ¬ bt u 5 = true → hlk u mi = 0 := fun z => if_neg z
    refine T_X8_heed_107 fh.1 (c_heeds fh.1 tp'.1 (what := 0) (b := 5) rfl rfl (by omega) (by omega) ⟨_, rfl, fh.1, ?_⟩)
    have e2_ : ∀ (m40 m41 : Nat), usd (ab_fl (ab_fl hh 40 0 m40 (-1)) 41 0 m41 (-1)) 2 = usd hh 2 ∧ lwO (lawL A) (ab_fl (ab_fl hh 40 0 m40 (-1)) 41 0 m41 (-1)) := by
      intro m40 m41
      obtain ⟨u, eu⟩ : ∃ u, u = ab_fl (ab_fl hh 40 0 m40 (-1)) 41 0 m41 (-1) := ⟨_, rfl⟩
      have ce : ∀ a, a ≠ 40 → a ≠ 41 → eqc hh u a := fun a n1 n2 => by rw [eu]; exact eqc_fl (eqc_fl eqc_rfl n1) n2
      have xu : ah_x u = ah_x hh := by rw [eu]; rfl
      rw [← eu]
      clear eu
      have tp2 := tp_fr (ce 38 (by decide) (by decide)) (ce 39 (by decide) (by decide)).2.1 (fun a ha => ce a (by omega) (by omega)) (Nat.le_of_eq xu.symm) tp'
      refine ⟨?_, tp2.1⟩
      unfold usd
      rw [(ce 38 (by decide) (by decide)).2.2.1]
      cases e : ah_r hh 38 3 with
      | none => rfl
      | some x =>
        have hx : 123 ≤ x := by
          have l0 := tp'.1
          cases eA : lawL A with
          | none =>
            rw [eA] at l0
            have l1 : ah_r hh 38 3 = none := l0
            rw [e] at l1; cases l1
          | some cls =>
            rw [eA] at l0
            obtain ⟨y, ey, tt, _⟩ := l0
            have : x = y := Option.some.inj (e.symm.trans ey)
            have := tt.1.1
            omega
        exact (ce (x + 3) (by omega) (by omega)).1 2
    have s2 : ∀ (m40 m41 : Nat), Sh (ab_fl (ab_fl hh 40 0 m40 (-1)) 41 0 m41 (-1)) := fun m40 m41 => sh_fl (sh_fl fh.1)
    have end_ : ∀ (m40 m41 : Nat), (∀ mi, mi < 120 → hlk (usd hh 0) mi * 20 + 20 ≤ m40) → (∀ mi, mi < 120 → hlk (usd hh 0) mi * 72 + 72 ≤ m41) → Mt mX8_heeds [.ref 38, .int 2, .int 5] (ab_fl (ab_fl hh 40 0 m40 (-1)) 41 0 m41 (-1)) (ab_qi fun v50 h48 => Sh h48 ∧ ((v50 = 0 → (Mt mJ7_fill_fda19 [.ref 42, .int 0, .int 10, .int (-1)] h48 (ab_qv fun h52 => Sh h52 ∧ Wp mX8_heed Q 0 0 183 [none, none, none, none, none] [] h52))) ∧ (¬ v50 = 0 → (Mt mJ7_fill_fda19 [.ref 42, .int 0, .int 1200, .int (-1)] h48 (ab_qv fun h55 => Sh h55 ∧ Wp mX8_heed Q 0 0 183 [none, none, none, none, none] [] h55))))) := by
      intro m40 m41 c1 c2
      obtain ⟨e1, e2⟩ := e2_ m40 m41
      have s2' := s2 m40 m41
      have fin' := fun m42 => fin m40 m41 m42 c1 c2
      generalize ab_fl (ab_fl hh 40 0 m40 (-1)) 41 0 m41 (-1) = u at *
      refine c_heeds s2' e2 (what := 2) (b := 5) rfl rfl (by omega) (by omega) ⟨_, rfl, s2', ?_⟩
      rw [e1]
      by_cases z : bt (usd hh 2) 5 = true
      · rw [if_pos z]
        (first | refine ⟨fun _ => ?_, fun n_ => absurd (show ¬ (1 : Int32) = 0 by decide) n_⟩ | refine ⟨fun n_ => absurd (show ¬ (1 : Int32) = 0 by decide) n_, fun _ => ?_⟩ | refine ⟨fun y_ => absurd y_ (show ¬ (1 : Int32) = 0 by decide), fun _ => ?_⟩ | refine ⟨fun _ => ?_, fun y_ => absurd y_ (show ¬ (1 : Int32) = 0 by decide)⟩)
        exact c_fill s2' 42 0 1200 _ _ _ rfl rfl (sh_k s2' 42 14 (by decide) rfl) (by rw [n42 s2']; omega) (by omega) (by rw [n42 s2']; omega) ⟨rfl, sh_fl s2', T_X8_heed_183 (sh_fl s2') (fin' 1200 (fun mi hm => by have := hlk_lt (u := usd hh 2) hm; omega))⟩
      · rw [if_neg z]
        (first | refine ⟨fun _ => ?_, fun n_ => absurd (show (0 : Int32) = 0 by rfl) n_⟩ | refine ⟨fun n_ => absurd (show (0 : Int32) = 0 by rfl) n_, fun _ => ?_⟩ | refine ⟨fun y_ => absurd y_ (show (0 : Int32) = 0 by rfl), fun _ => ?_⟩ | refine ⟨fun _ => ?_, fun y_ => absurd y_ (show (0 : Int32) = 0 by rfl)⟩)
        exact c_fill s2' 42 0 10 _ _ _ rfl rfl (sh_k s2' 42 14 (by decide) rfl) (by rw [n42 s2']; omega) (by omega) (by rw [n42 s2']; omega) ⟨rfl, sh_fl s2', T_X8_heed_183 (sh_fl s2') (fin' 10 (fun mi hm => by rw [h0 z]; omega))⟩
    by_cases z : bt (usd hh 0) 5 = true
    · rw [if_pos z]
      (first | refine ⟨fun _ => ?_, fun n_ => absurd (show ¬ (1 : Int32) = 0 by decide) n_⟩ | refine ⟨fun n_ => absurd (show ¬ (1 : Int32) = 0 by decide) n_, fun _ => ?_⟩ | refine ⟨fun y_ => absurd y_ (show ¬ (1 : Int32) = 0 by decide), fun _ => ?_⟩ | refine ⟨fun _ => ?_, fun y_ => absurd y_ (show ¬ (1 : Int32) = 0 by decide)⟩)
      have s1 : Sh (ab_fl hh 40 0 2400 (-1)) := sh_fl fh.1
      refine c_fill fh.1 40 0 2400 _ _ _ rfl rfl (sh_k fh.1 40 14 (by decide) rfl) (by rw [n40 fh.1]; omega) (by omega) (by rw [n40 fh.1]; omega) ⟨rfl, s1, ?_⟩
      refine c_fill s1 41 0 8640 _ _ _ rfl rfl (sh_k s1 41 14 (by decide) rfl) (by rw [n41 s1]; omega) (by omega) (by rw [n41 s1]; omega) ⟨rfl, sh_fl s1, ?_⟩
      exact end_ 2400 8640 (fun mi hm => by have := hlk_lt (u := usd hh 0) hm; omega) (fun mi hm => by have := hlk_lt (u := usd hh 0) hm; omega)
    · rw [if_neg z]
      (first | refine ⟨fun _ => ?_, fun n_ => absurd (show (0 : Int32) = 0 by rfl) n_⟩ | refine ⟨fun n_ => absurd (show (0 : Int32) = 0 by rfl) n_, fun _ => ?_⟩ | refine ⟨fun y_ => absurd y_ (show (0 : Int32) = 0 by rfl), fun _ => ?_⟩ | refine ⟨fun _ => ?_, fun y_ => absurd y_ (show (0 : Int32) = 0 by rfl)⟩)
      have s1 : Sh (ab_fl hh 40 0 20 (-1)) := sh_fl fh.1
      refine c_fill fh.1 40 0 20 _ _ _ rfl rfl (sh_k fh.1 40 14 (by decide) rfl) (by rw [n40 fh.1]; omega) (by omega) (by rw [n40 fh.1]; omega) ⟨rfl, s1, ?_⟩
      refine c_fill s1 41 0 72 _ _ _ rfl rfl (sh_k s1 41 14 (by decide) rfl) (by rw [n41 s1]; omega) (by omega) (by rw [n41 s1]; omega) ⟨rfl, sh_fl s1, ?_⟩
      exact end_ 20 72 (fun mi hm => by rw [h0 z]; omega) (fun mi hm => by rw [h0 z]; omega)
  have k48' : ∀ (r : Option Nat), lwR0 A h r → ∀ hz, hz = ah_sl (ah_si (ah_si (ah_sr h 38 3 r) 38 4 (nI (A 242))) 38 5 (nI (A 244))) 38 7 (ah_l h 38 7 + 1) → Wp mX8_heed Q 0 0 99 [some (.ref 38), some (.int x1), none, some (.int 1), none] [] hz := by
    intro r r0 hz ez
    obtain ⟨l0, t1, t2, t3, t4, t5, t6⟩ := tp
    have ce : ∀ a, a ≠ 38 → eqc h hz a := fun a n => by rw [ez]; exact eqc_sl (eqc_si (eqc_si (eqc_sr eqc_rfl n) n) n) n
    have sz : Sh hz := by rw [ez]; exact sh_sl (sh_si (sh_si (sh_sr hs (by decide +kernel))))
    have xz : ah_x hz = ah_x h := by rw [ez]; rfl
    have r3 : ah_r hz 38 3 = r := by rw [ez]; rfl
    have i4 : ah_i hz 38 4 = nI (A 242) := by rw [ez]; rfl
    have i5 : ah_i hz 38 5 = nI (A 244) := by rw [ez]; rfl
    have j7 : ah_l hz 38 7 = ah_l h 38 7 + 1 := by rw [ez]; rfl
    clear ez
    refine T_X8_heed_99 sz _ _ ?_
    (first | refine ⟨fun _ => ?_, fun n_ => absurd (show ¬ (1 : Int32) = 0 by decide) n_⟩ | refine ⟨fun n_ => absurd (show ¬ (1 : Int32) = 0 by decide) n_, fun _ => ?_⟩ | refine ⟨fun y_ => absurd y_ (show ¬ (1 : Int32) = 0 by decide), fun _ => ?_⟩ | refine ⟨fun _ => ?_, fun y_ => absurd y_ (show ¬ (1 : Int32) = 0 by decide)⟩)
    obtain ⟨G, eG⟩ : ∃ G, G = g + 1 := ⟨_, rfl⟩
    refine k107 hz G ⟨sz, xz, fun a n1 _ _ _ => ce a n1⟩ (by omega) ⟨?_, i4, i5, ?_, l7, l8, fun p hp => ?_⟩
    · unfold lwR0 at r0
      cases eA : lawL A with
      | none => rw [eA] at r0; exact r3.trans r0
      | some cls =>
        rw [eA] at r0
        obtain ⟨x, ex, tt, hL⟩ := r0
        have := tt.1.1
        exact ⟨x, r3.trans ex, tx_fr (fun i hi => ce _ (by omega)) (Nat.le_of_eq xz.symm) tt, hL⟩
    · have o1 : ((1 : Int64)).toInt = 1 := rfl
      rw [j7, l_add (by omega) (by omega) (by omega) (by omega), t3, o1, eG]
      omega
    · obtain ⟨e, m1, m2, m3⟩ := t6 p hp
      exact ⟨e, by rw [(ce 39 (by decide)).2.1]; exact m1, (gen_lt m2 eG).1, fun cls x _ _ what w hw wr _ _ q => absurd q ((gen_lt m2 eG).2 _)⟩
  have k48 : ∀ (r : Option Nat), lwR0 A h r → Wp mX8_heed Q 0 0 48 [some (.ref 38), some (.int x1), some (va_rf r), none, none] [] h := by
    intro r r0
    have z0 : Int32.toNatClampNeg 0 = 0 := rfl
    have z2 : Int32.toNatClampNeg 2 = 2 := rfl
    have lst_ : ∀ h24 h27 h30 h33, h24 = ah_sr h 38 3 r → h27 = ah_si h24 38 4 (ah_i h24 14 (Int32.toNatClampNeg 0)) → h30 = ah_si h27 38 5 (ah_i h27 14 (Int32.toNatClampNeg 2)) → h33 = ah_sl h30 38 7 ((ah_l h30 38 7) + (1 : Int64)) → h33 = ah_sl (ah_si (ah_si (ah_sr h 38 3 r) 38 4 (nI (A 242))) 38 5 (nI (A 244))) 38 7 (ah_l h 38 7 + 1) := by
      intro h24 h27 h30 h33 q1 q2 q3 q4
      have j1 : ah_i h24 14 (Int32.toNatClampNeg 0) = nI (A 242) := by rw [q1, z0]; exact l5
      have j2 : ah_i h27 14 (Int32.toNatClampNeg 2) = nI (A 244) := by rw [q2, z2, ah_i_sn (by omega), q1]; exact l6
      have j3 : ah_l h30 38 7 = ah_l h 38 7 := by rw [q3, q2, q1]; rfl
      rw [q4, j3, q3, j2, q2, j1, q1]
    cases r with
    | none => exact T_X8_heed_48 hs _ 0 (fun h24 q1 h27 q2 h30 q3 h33 q4 => k48' none r0 h33 (lst_ h24 h27 h30 h33 q1 q2 q3 q4))
    | some b => exact T_X8_heed_48r hs _ b (fun h24 q1 h27 q2 h30 q3 h33 q4 => k48' (some b) r0 h33 (lst_ h24 h27 h30 h33 q1 q2 q3 q4))
  have k99 : ∀ (r : Option Nat), lwR0 A h r → r = ah_r h 38 3 → wi = A 242 → mo = A 244 → Wp mX8_heed Q 0 0 99 [some (.ref 38), some (.int x1), none, some (.int 0), none] [] h := by
    intro r r0 er e1 e2
    subst e1 e2
    refine T_X8_heed_99 hs _ _ ?_
    (first | refine ⟨fun _ => ?_, fun n_ => absurd (show (0 : Int32) = 0 by rfl) n_⟩ | refine ⟨fun n_ => absurd (show (0 : Int32) = 0 by rfl) n_, fun _ => ?_⟩ | refine ⟨fun y_ => absurd y_ (show (0 : Int32) = 0 by rfl), fun _ => ?_⟩ | refine ⟨fun _ => ?_, fun y_ => absurd y_ (show (0 : Int32) = 0 by rfl)⟩)
    refine ⟨fun z => T_X8_heed_183 hs (hq h g ⟨hs, rfl, fun _ _ _ _ _ => eqc_rfl⟩ (by omega) (tp_same tp r0 er) (hf_same wl sg l7 l8 tp.1 r0 er (hk z))), fun z => k107 h g ⟨hs, rfl, fun _ _ _ _ _ => eqc_rfl⟩ (by omega) (tp_same tp r0 er)⟩
  obtain ⟨l0, t1, t2, t3, t4, t5, t6⟩ := tp
  have i4 : ah_i h 38 4 = ah_i h 14 (Int32.toNatClampNeg 0) ↔ wi = A 242 := by
    rw [t1, show Int32.toNatClampNeg 0 = 0 from rfl, l5, nI_eq (by omega) (by omega)]
  have i5 : ah_i h 38 5 = ah_i h 14 (Int32.toNatClampNeg 2) ↔ mo = A 244 := by
    rw [t2, show Int32.toNatClampNeg 2 = 2 from rfl, l6, nI_eq (by omega) (by omega)]
  have kf : ∀ b, ah_r h 38 3 = some b → ah_k h b = 9 := by
    intro b eb
    cases L with
    | none =>
      have l1 : ah_r h 38 3 = none := l0
      rw [eb] at l1; cases l1
    | some cls =>
      obtain ⟨y, ey, tt, _⟩ := l0
      have e : b = y := Option.some.inj (eb.symm.trans ey)
      rw [e]
      exact tt.1.2.2.1
  refine T_X8_heed hs _ (c_law hs lg (fun r r0 => ⟨r, rfl, hs, fun z => ?_, fun b z => ?_⟩))
  · subst z
    refine ⟨fun y => ⟨fun n => absurd rfl n, fun _ => ⟨fun n => k48 none r0, fun e4 => ⟨fun e5 => k99 none r0 y.symm (i4.mp e4) (i5.mp e5), fun n => k48 none r0⟩⟩⟩, fun b7 y => ⟨kf b7 y, fun _ => k48 none r0, fun n => (nomatch n)⟩⟩
  · subst z
    have kb : ah_k h b = 9 := by
      cases eA : lawL A with
      | none => rw [eA] at r0; cases r0
      | some cls =>
        rw [eA] at r0
        obtain ⟨y, ey, tt, _⟩ := r0
        cases ey
        exact tt.1.2.2.1
    refine ⟨kb, fun y => ⟨fun _ => k48 (some b) r0, fun n => (nomatch n)⟩, fun b16 y => ⟨kf b16 y, fun _ => k48 (some b) r0, fun e3 => ⟨fun n => k48 (some b) r0, fun e4 => ⟨fun e5 => k99 (some b) r0 (e3.trans y.symm) (i4.mp e4) (i5.mp e5), fun n => k48 (some b) r0⟩⟩⟩⟩
end HE
