/-! ===== the class's night: what it is run over ===== -/
/-- the first switch of a minute from one on, and one -/
def fw (A : Nat → Nat) (m : Nat) : Nat → Nat → Nat
  | 0, _ => 0
  | f + 1, k => if A (91 + 3 * k) = m then k + 1 else fw A m f (k + 1)
def fsw (A : Nat → Nat) (m k : Nat) : Nat := fw A m (A 247 - k) k
theorem fsw_end {A : Nat → Nat} {m k : Nat} (h : A 247 ≤ k) : fsw A m k = 0 := by
  unfold fsw
  rw [show A 247 - k = 0 by omega]
  rfl
theorem fsw_yes {A : Nat → Nat} {m k : Nat} (h : k < A 247) (e : A (91 + 3 * k) = m) : fsw A m k = k + 1 := by
  unfold fsw
  obtain ⟨d, ed⟩ : ∃ d, A 247 - k = d + 1 := ⟨A 247 - k - 1, by omega⟩
  rw [ed]
  exact if_pos e
theorem fsw_no {A : Nat → Nat} {m k : Nat} (h : k < A 247) (e : ¬ A (91 + 3 * k) = m) : fsw A m k = fsw A m (k + 1) := by
  unfold fsw
  obtain ⟨d, ed⟩ : ∃ d, A 247 - k = d + 1 := ⟨A 247 - k - 1, by omega⟩
  rw [ed, show A 247 - (k + 1) = d by omega]
  exact if_neg e
theorem fsw_le {A : Nat → Nat} {m : Nat} : ∀ (d k : Nat), k + d = A 247 → fsw A m k ≤ A 247
  | 0, k, h => by rw [fsw_end (by omega)]; omega
  | d + 1, k, h => by
    by_cases e : A (91 + 3 * k) = m
    · rw [fsw_yes (by omega) e]; omega
    · rw [fsw_no (by omega) e]; exact fsw_le d (k + 1) (by omega)
/-- the class's town, as nights look at it -/
def cSt (A : Nat → Nat) (h : ah_T) : Prop := ah_i h 6 1 = nI 3 ∧ ah_i h 6 3 = nI (A 247) ∧ wfS A ∧ ∀ j, j < 3 * A 247 → ah_i h 7 j = nI (A (90 + j))
def cLn (A : Nat → Nat) (h : ah_T) : Prop := ah_i h 8 1 = nI 19 ∧ ah_i h 8 3 = nI (A 248) ∧ wfN A ∧ ∀ l, l < A 248 → ah_i h 9 (19 * l) = nI (A (162 + 19 * l)) ∧ ah_i h 9 (19 * l + 1) = nI (A (163 + 19 * l)) ∧ ah_i h 9 (19 * l + 2) = nI (A (165 + 19 * l)) ∧ ah_i h 9 (19 * l + 3) = nI (A (164 + 19 * l) - 1) ∧ ∀ i, i < A (164 + 19 * l) - 1 → ah_i h 9 (19 * l + (4 + i)) = nI (A (166 + 19 * l + i))
def cTw (A : Nat → Nat) (h : ah_T) : Prop := lmO A h ∧ cSt A h ∧ cLn A h ∧ ah_i h 14 1 = nI (A 243) ∧ wfT A
theorem cTw_fr {A : Nat → Nat} {h h' : ah_T} (e : ∀ a, a < 15 → ∀ j, ah_i h' a j = ah_i h a j) (t : cTw A h) : cTw A h' := by
  obtain ⟨⟨a1, a2, a3, a4⟩, ⟨b1, b2, b3, b4⟩, ⟨c1, c2, c3, c4⟩, d1, d2⟩ := t
  refine ⟨⟨by rw [e 4 (by omega)]; exact a1, by rw [e 4 (by omega)]; exact a2, a3, fun j hj => by rw [e 5 (by omega)]; exact a4 j hj⟩, ⟨by rw [e 6 (by omega)]; exact b1, by rw [e 6 (by omega)]; exact b2, b3, fun j hj => by rw [e 7 (by omega)]; exact b4 j hj⟩, ⟨by rw [e 8 (by omega)]; exact c1, by rw [e 8 (by omega)]; exact c2, c3, fun l hl => ?_⟩, by rw [e 14 (by omega)]; exact d1, d2⟩
  obtain ⟨q1, q2, q3, q4, q5⟩ := c4 l hl
  exact ⟨by rw [e 9 (by omega)]; exact q1, by rw [e 9 (by omega)]; exact q2, by rw [e 9 (by omega)]; exact q3, by rw [e 9 (by omega)]; exact q4, fun i hi => by rw [e 9 (by omega)]; exact q5 i hi⟩
theorem cTw_of {A : Nat → Nat} {h : ah_T} (wf : WF A) (tn : Tn TXm A h 1 84 0) : cTw A h := by
  obtain ⟨_, ⟨q1, q2, q3, q4, q5, q6⟩, ⟨p1, p2, p3, p4, p5, p6⟩, ⟨r1, r2, r3, r4, r5⟩, _, _, t7, _⟩ := tn
  exact ⟨⟨q2, q3, wf.2.1, fun j hj => (q6 j hj).1⟩, ⟨p2, p3, wf.2.2.1, fun j hj => (p6 j hj).1⟩, ⟨r2, r3, wf.2.2.2.1, fun l hl => by obtain ⟨s1, s2, s3, s4, s5, _⟩ := r5 l hl; exact ⟨s1, s2, s3, s4, s5⟩⟩, (t7 1 (by omega)).1, wf.2.2.2.2.2.2.1⟩
/-- a night comes from the town, but for one lamp (sp, and one), one lantern more -/
def nfO (A : Nat → Nat) (N : Nd) (sp : Nat) : Prop := A 246 ≤ N.n ∧ N.n ≤ A 246 + 1 ∧ N.gu = decide (A 246 < N.n) ∧ (∀ l, l < A 246 → N.co l = A (60 + 3 * l) ∧ (l + 1 ≠ sp → N.ki l = A (61 + 3 * l))) ∧ (A 246 < N.n → sp = A 246 + 1) ∧ sp ≤ N.n ∧ A 248 ≤ N.q ∧ N.q ≤ A 248 + 1 ∧ ∀ k, k < A 248 → N.lk k = A (162 + 19 * k) ∧ ∀ m, m < 120 → N.pl k m = plA A k m
def cSw (A : Nat → Nat) (h : ah_T) : Prop := (∀ m, m < 120 → ah_i h 50 m = nO (fsw A m 0)) ∧ ∀ i, i < A 247 → ah_i h 51 i = nO (fsw A (A (91 + 3 * i)) (i + 1))
def cND (A : Nat → Nat) (N : Nd) (sp : Nat) (h : ah_T) : Prop := wfD N ∧ nfO A N sp ∧ ah_i h 43 0 = nI N.n ∧ ah_i h 43 8 = nI N.q ∧ ah_i h 43 15 = nO sp ∧ (∀ l, l < N.n → ah_i h 44 l = nI (N.co l) ∧ ah_i h 45 l = nI (N.ki l)) ∧ (∀ k, k < N.q → ah_i h 48 k = nI (N.lk k) ∧ ∀ m, m < 120 → ah_i h 49 (120 * k + m) = nO (N.pl k m)) ∧ cSw A h
theorem cND_fr {A : Nat → Nat} {N : Nd} {sp : Nat} {h h' : ah_T} (e : ∀ a, (a = 44 ∨ a = 45 ∨ a = 48 ∨ a = 49 ∨ a = 50 ∨ a = 51) → ∀ j, ah_i h' a j = ah_i h a j) (e2 : ∀ j, (j = 0 ∨ j = 8 ∨ j = 15) → ah_i h' 43 j = ah_i h 43 j) (m : cND A N sp h) : cND A N sp h' := by
  obtain ⟨m1, m2, m3, m4, m5, m6, m7, m8, m9⟩ := m
  exact ⟨m1, m2, by rw [e2 0 (by omega)]; exact m3, by rw [e2 8 (by omega)]; exact m4, by rw [e2 15 (by omega)]; exact m5, fun l hl => by rw [e 44 (by omega), e 45 (by omega)]; exact m6 l hl, fun k hk => ⟨by rw [e 48 (by omega)]; exact (m7 k hk).1, fun m hm => by rw [e 49 (by omega)]; exact (m7 k hk).2 m hm⟩, fun m hm => by rw [e 50 (by omega)]; exact m8 m hm, fun i hi => by rw [e 51 (by omega)]; exact m9 i hi⟩
/-- cells of the night alone change -/
def ceN (h h' : ah_T) : Prop := Sh h' ∧ ah_x h' = ah_x h ∧ ∀ a, (a < 43 ∨ 53 < a) → eqc h h' a
section CL
variable {A : Nat → Nat} {N : Nd} {h g h1 : ah_T} {sp : Nat}
theorem ceN_r (hs : Sh h) : ceN h h := ⟨hs, rfl, fun _ _ => eqc_rfl⟩
theorem ceN_t (p : ceN h g) (q : ceN g h1) : ceN h h1 := ⟨q.1, by rw [q.2.1, p.2.1], fun a n => eqc_trans (p.2.2 a n) (q.2.2 a n)⟩
theorem ceN_s {a j : Nat} {x : Int32} (o : 43 ≤ a ∧ a ≤ 53) (p : ceN h g) : ceN h (ah_si g a j x) := ⟨sh_si p.1, by rw [ah_x_si, p.2.1], fun b n => eqc_si (p.2.2 b n) (by omega)⟩
theorem tmO_n {L : Option (List Cl)} {wi mo g0 : Nat} (c : ceN h g) (t : tmO L wi mo g0 A h) : tmO L wi mo g0 A g := by
  obtain ⟨t1, t2, t3, t4, t5, t6⟩ := t
  have e : ∀ a, (a < 43 ∨ 53 < a) → ∀ j, ah_i g a j = ah_i h a j := fun a n => (c.2.2 a n).1
  have us : ∀ what, usd g what = usd h what := by
    intro what
    unfold usd
    rw [(c.2.2 38 (by omega)).2.2.1]
    cases z : ah_r h 38 3 with
    | none => rfl
    | some x =>
      have := lw_123 t1.1 z
      exact e (x + 3) (by omega) what
  refine ⟨tp_fr (c.2.2 38 (by omega)) (c.2.2 39 (by omega)).2.1 (fun a ha => c.2.2 a (by omega)) (Nat.le_of_eq c.2.1.symm) t1, t2, wB_of (e 27 (by omega)) t3, ?_, sgO_fr (e 34 (by omega)) t5, lmO_fr (e 4 (by omega)) (e 5 (by omega)) t6⟩
  unfold hfO at t4 ⊢
  simp only [us, e 40 (by omega), e 41 (by omega), e 42 (by omega)]
  exact t4
theorem cTw_n (c : ceN h g) (t : cTw A h) : cTw A g := cTw_fr (fun a ha => (c.2.2 a (by omega)).1) t
theorem s_get {Q : Option Value → ah_T → Prop} (hs : Sh h) (m : cSt A h) {l k : Nat} {x1 x2 : Int32} (e1 : x1 = nI l) (e2 : x2 = nI k) (hl : l < A 247) (hk : k < 3) (hq : Q (some (.int (nI (A (90 + 3 * l + k))))) h) : Mt mX7_get [.ref 6, .int x1, .int x2] h Q := by
  have w24 := m.2.2.1.1
  refine c_getW hs (t := 6) (n := A 247) (r := l) (k := k) (by omega) e1 e2 m.1 m.2.1 (by show 3 * A 247 ≤ 72; omega) hl hk ?_
  rw [m.2.2.2 (3 * l + k) (by omega), ← Nat.add_assoc]
  exact hq
theorem n_get {Q : Option Value → ah_T → Prop} (hs : Sh h) (m : cLn A h) {l k : Nat} {x1 x2 : Int32} (e1 : x1 = nI l) (e2 : x2 = nI k) (hl : l < A 248) (hk : k < 19) (hq : Q (some (.int (ah_i h 9 (19 * l + k)))) h) : Mt mX7_get [.ref 8, .int x1, .int x2] h Q := by
  have w2 := m.2.2.1.1
  refine c_getN hs 8 9 x1 x2 l k e1 e2 (sh_k hs 8 7 (by decide) rfl) (sh_k hs 9 14 (by decide) rfl) (hs.2.1 (8, 2, 9) (by decide +kernel)) (n := A 248) (w := 19) m.1 m.2.1 (by rw [sh_n hs 9 38 (by decide) (by decide) rfl]; omega) (.inr (.inl rfl)) (by omega) hl hk ?_
  rw [show l * 19 + k = 19 * l + k by omega]
  exact hq
theorem nI_dif {a b : Nat} (ha : a < 2 ^ 20) (hb : b < 2 ^ 20) : (nI a - nI b).toInt = (a : Int) - b := by
  rw [Int32.toInt_sub, nI_toInt (by omega), nI_toInt (by omega)]
  show ((a : Int) - b).bmod (2 ^ 32) = (a : Int) - b
  rw [Int.bmod_def]
  omega
theorem nI_dlt {a b : Nat} (hb : b < 2 ^ 20) (h : a < b) : ¬ 0 ≤ nI a - nI b := by
  rw [Int32.le_iff_toInt_le, nI_dif (by omega) hb]
  show ¬ (0 : Int) ≤ (a : Int) - b
  omega
theorem c_placeOf {Q : Option Value → ah_T → Prop} (hs : Sh h) (m : cLn A h) {l mi : Nat} {x1 x2 : Int32} (e1 : x1 = nI l) (e2 : x2 = nI mi) (hl : l < A 248) (hm : mi < 120) (hq : Q (some (.int (nO (plA A l mi)))) h) : Mt mX3_placeOf [.ref 43, .int x1, .int x2] h Q := by
  subst e1 e2
  have m' := m
  obtain ⟨m1, m2, m3, m4⟩ := m'
  obtain ⟨w1, w2⟩ := m3
  obtain ⟨w3, w4, w5, w6, w7⟩ := w2 l hl
  obtain ⟨r1, r2, r3, r4, r5⟩ := m4 l hl
  refine T_X3_placeOf hs _ _ (n_get hs m rfl (k := 1) rfl hl (by omega) ⟨_, rfl, hs, n_get hs m rfl (k := 3) rfl hl (by omega) ⟨_, rfl, hs, ?_⟩⟩)
  rw [r2, r4]
  unfold plA at hq
  by_cases z : mi < A (163 + 19 * l)
  · rw [if_pos z] at hq
    have a1 : ¬ nI (A (164 + 19 * l) - 1) < nI mi - nI (A (163 + 19 * l)) := by
      rw [Int32.lt_iff_toInt_lt, nI_dif (by omega) (by omega), nI_toInt (by omega)]
      omega
    rw [if_neg a1]
    (first | refine ⟨fun _ => ?_, fun n_ => absurd (nI_dlt (a := mi) (b := A (163 + 19 * l)) (by omega) z) n_⟩ | refine ⟨fun n_ => absurd (nI_dlt (a := mi) (b := A (163 + 19 * l)) (by omega) z) n_, fun _ => ?_⟩ | refine ⟨fun y_ => absurd y_ (nI_dlt (a := mi) (b := A (163 + 19 * l)) (by omega) z), fun _ => ?_⟩ | refine ⟨fun _ => ?_, fun y_ => absurd y_ (nI_dlt (a := mi) (b := A (163 + 19 * l)) (by omega) z)⟩)
    exact hq
  · rw [if_neg z] at hq
    have a1 : (if nI (A (164 + 19 * l) - 1) < nI mi - nI (A (163 + 19 * l)) then nI (A (164 + 19 * l) - 1) else nI mi - nI (A (163 + 19 * l))) = nI (min (mi - A (163 + 19 * l)) (A (164 + 19 * l) - 1)) := by
      rw [nI_sub (by omega)]
      by_cases y : A (164 + 19 * l) - 1 < mi - A (163 + 19 * l)
      · rw [if_pos (nI_lt y (by omega))]; congr 1; omega
      · rw [if_neg (by rw [nI_ltI (by omega) (by omega)]; exact y)]; congr 1; omega
    rw [a1]
    obtain ⟨j, ej⟩ : ∃ j, j = min (mi - A (163 + 19 * l)) (A (164 + 19 * l) - 1) := ⟨_, rfl⟩
    rw [← ej] at hq ⊢
    (first | refine ⟨fun _ => ?_, fun n_ => absurd (show 0 ≤ nI j from nI_le (a := 0) (by omega) (by omega)) n_⟩ | refine ⟨fun n_ => absurd (show 0 ≤ nI j from nI_le (a := 0) (by omega) (by omega)) n_, fun _ => ?_⟩ | refine ⟨fun y_ => absurd y_ (show 0 ≤ nI j from nI_le (a := 0) (by omega) (by omega)), fun _ => ?_⟩ | refine ⟨fun _ => ?_, fun y_ => absurd y_ (show 0 ≤ nI j from nI_le (a := 0) (by omega) (by omega))⟩)
    rw [nO_s] at hq
    refine ⟨fun y => ?_, fun y => ?_⟩
    · have hj : j ≠ 0 := fun w => y (by rw [w]; rfl)
      have e4 : (4 : Int32) + nI j - 1 = nI (4 + (j - 1)) := by rw [n_4, nI_add, show 4 + j = (4 + (j - 1)) + 1 by omega, nI_pred]
      refine n_get hs m rfl (k := 4 + (j - 1)) e4 hl (by omega) ⟨_, rfl, hs, ?_⟩
      rw [r5 (j - 1) (by omega), show 166 + 19 * l + (j - 1) = 165 + 19 * l + j by omega]
      exact hq
    · have hj : j = 0 := (nI_eq (b := 0) (by omega) (by omega)).mp y
      refine n_get hs m rfl (k := 2) rfl hl (by omega) ⟨_, rfl, hs, ?_⟩
      rw [r3]
      rw [hj] at hq
      exact hq
/-- all is as the town has it -/
theorem c_dismiss {Q : Option Value → ah_T → Prop} (hs : Sh h) (t : cTw A h) (ki : ∀ l, l < A 246 → l + 1 ≠ sp → ah_i h 45 l = nI (A (61 + 3 * l))) (co : ∀ l, l < A 246 → ah_i h 44 l = nI (A (60 + 3 * l))) (ln : ∀ k, k < A 248 → ah_i h 48 k = nI (A (162 + 19 * k)) ∧ ∀ m, m < 120 → ah_i h 49 (120 * k + m) = nO (plA A k m)) (sw : cSw A h) (e15 : ah_i h 43 15 = nO sp) (hsp : sp ≤ 11)
    (hq : ∀ h', ceN h h' → cND A (nd0 A) 0 h' → (∀ a, a ≠ 43 → a ≠ 45 → ∀ j, ah_i h' a j = ah_i h a j) → Q none h') : Mt mX3_dismiss [.ref 43] h Q := by
  have w10 := t.1.2.2.1.1
  have wl := t.1.2.2.1
  have wn := t.2.2.1.2.2.1
  have n45 : ah_n h 45 = 10 := sh_n hs 45 10 (by decide) (by decide) rfl
  have key : ∀ u, ceN h u → (∀ j, j < A 246 → ah_i u 45 j = nI (A (61 + 3 * j))) → (∀ a, a ≠ 43 → a ≠ 45 → ∀ j, ah_i u a j = ah_i h a j) → ∀ h2 h5 h8, h2 = ah_si u 43 15 (-1) → h5 = ah_si h2 43 0 (ah_i h2 4 3) → h8 = ah_si h5 43 8 (ah_i h5 8 3) → Q none h8 := by
    rintro u cu k45 ko h2 h5 h8 rfl rfl rfl
    have a1 : ah_i (ah_si u 43 15 (-1)) 4 3 = nI (A 246) := by rw [ah_i_sn (by omega), (cu.2.2 4 (by omega)).1]; exact t.1.2.1
    rw [a1]
    have a2 : ah_i (ah_si (ah_si u 43 15 (-1)) 43 0 (nI (A 246))) 8 3 = nI (A 248) := by rw [ah_i_sn (by omega), ah_i_sn (by omega), (cu.2.2 8 (by omega)).1]; exact t.2.2.1.2.1
    rw [a2]
    have ko2 : ∀ a, a ≠ 43 → ∀ j, ah_i (ah_si (ah_si (ah_si u 43 15 (-1)) 43 0 (nI (A 246))) 43 8 (nI (A 248))) a j = ah_i u a j := fun a n j => by rw [ah_i_sn (by omega), ah_i_sn (by omega), ah_i_sn (by omega)]
    refine hq _ (ceN_s (by omega) (ceN_s (by omega) (ceN_s (by omega) cu))) ⟨wfD_0 wl wn, ⟨Nat.le_refl _, Nat.le_succ _, (decide_eq_false (Nat.lt_irrefl _)).symm, fun l hl => ⟨rfl, fun _ => rfl⟩, fun y => absurd y (Nat.lt_irrefl _), Nat.zero_le _, Nat.le_refl _, Nat.le_succ _, fun k hk => ⟨rfl, fun m hm => rfl⟩⟩, ?_, ?_, ?_, fun l hl => ?_, fun k hk => ?_, fun m hm => ?_, fun i hi => ?_⟩ (fun a n1 n2 j => by rw [ko2 a n1, ko a n1 n2])
    · rw [ah_i_sn (by omega), ah_i_ss]; rfl
    · rw [ah_i_ss]; rfl
    · rw [ah_i_sn (by omega), ah_i_sn (by omega), ah_i_ss]; rfl
    · rw [ko2 44 (by decide), ko2 45 (by decide), ko 44 (by decide) (by decide)]
      exact ⟨co l hl, k45 l hl⟩
    · rw [ko2 48 (by decide), ko 48 (by decide) (by decide)]
      exact ⟨(ln k hk).1, fun m hm => by rw [ko2 49 (by decide), ko 49 (by decide) (by decide)]; exact (ln k hk).2 m hm⟩
    · rw [ko2 50 (by decide), ko 50 (by decide) (by decide)]; exact sw.1 m hm
    · rw [ko2 51 (by decide), ko 51 (by decide) (by decide)]; exact sw.2 i hi
  refine T_X3_dismiss hs ?_
  rw [e15, t.1.2.1]
  by_cases z : sp = 0
  · rw [z]
    (first | refine ⟨fun _ => ?_, fun n_ => absurd (show nO 0 = -1 from rfl) n_⟩ | refine ⟨fun n_ => absurd (show nO 0 = -1 from rfl) n_, fun _ => ?_⟩ | refine ⟨fun y_ => absurd y_ (show nO 0 = -1 from rfl), fun _ => ?_⟩ | refine ⟨fun _ => ?_, fun y_ => absurd y_ (show nO 0 = -1 from rfl)⟩)
    intro h2 q2 h5 q5 h8 q8
    exact key h (ceN_r hs) (fun j hj => ki j hj (by omega)) (fun _ _ _ _ => rfl) h2 h5 h8 q2 q5 q8
  · obtain ⟨s, es⟩ : ∃ s, sp = s + 1 := ⟨sp - 1, by omega⟩
    rw [es, nO_s]
    (first | refine ⟨fun _ => ?_, fun n_ => absurd (nI_m1 (show s < 2 ^ 31 by omega)) n_⟩ | refine ⟨fun n_ => absurd (nI_m1 (show s < 2 ^ 31 by omega)) n_, fun _ => ?_⟩ | refine ⟨fun y_ => absurd y_ (nI_m1 (show s < 2 ^ 31 by omega)), fun _ => ?_⟩ | refine ⟨fun _ => ?_, fun y_ => absurd y_ (nI_m1 (show s < 2 ^ 31 by omega))⟩)
    by_cases y : s < A 246
    · (first | refine ⟨fun _ => ?_, fun n_ => absurd (show ¬ nI (A 246) ≤ nI s from nI_ge y (by omega)) n_⟩ | refine ⟨fun n_ => absurd (show ¬ nI (A 246) ≤ nI s from nI_ge y (by omega)) n_, fun _ => ?_⟩ | refine ⟨fun y_ => absurd y_ (show ¬ nI (A 246) ≤ nI s from nI_ge y (by omega)), fun _ => ?_⟩ | refine ⟨fun _ => ?_, fun y_ => absurd y_ (show ¬ nI (A 246) ≤ nI s from nI_ge y (by omega))⟩)
      refine lm_get hs t.1 rfl (k := 1) rfl y (by omega) ⟨_, rfl, hs, ?_⟩
      rw [nI_clamp (show s < 2 ^ 31 by omega), n45, show 60 + 3 * s + 1 = 61 + 3 * s by omega]
      refine ⟨(vp_nI (by omega)).mpr (by omega), ?_⟩
      intro h25 q25 h28 q28 h31 q31 h34 q34
      refine key h25 (by rw [q25]; exact ceN_s (by omega) (ceN_r hs)) (fun j hj => ?_) (fun a n1 n2 j => by rw [q25, ah_i_sn (by omega)]) h28 h31 h34 q28 q31 q34
      rw [q25, ah_i_si]
      by_cases w : j = s
      · rw [if_pos ⟨rfl, w⟩, w]
      · rw [if_neg (fun u => w u.2)]
        exact ki j hj (by omega)
    · (first | refine ⟨fun _ => ?_, fun n_ => absurd (show nI (A 246) ≤ nI s from nI_le (by omega) (by omega)) n_⟩ | refine ⟨fun n_ => absurd (show nI (A 246) ≤ nI s from nI_le (by omega) (by omega)) n_, fun _ => ?_⟩ | refine ⟨fun y_ => absurd y_ (show nI (A 246) ≤ nI s from nI_le (by omega) (by omega)), fun _ => ?_⟩ | refine ⟨fun _ => ?_, fun y_ => absurd y_ (show nI (A 246) ≤ nI s from nI_le (by omega) (by omega))⟩)
      intro h2 q2 h5 q5 h8 q8
      exact key h (ceN_r hs) (fun j hj => ki j hj (by omega)) (fun _ _ _ _ => rfl) h2 h5 h8 q2 q5 q8
theorem c_dismissN {Q : Option Value → ah_T → Prop} (hs : Sh h) (t : cTw A h) (d : cND A N sp h) (hq : ∀ h', ceN h h' → cND A (nd0 A) 0 h' → (∀ a, a ≠ 43 → a ≠ 45 → ∀ j, ah_i h' a j = ah_i h a j) → Q none h') : Mt mX3_dismiss [.ref 43] h Q := by
  obtain ⟨⟨d0, d1, d2, d3⟩, ⟨f1, f2, f3, f4, f5, f6, f7, f8, f9⟩, d4, d5, d6, d7, d8, d9⟩ := d
  refine c_dismiss hs t (sp := sp) (fun l hl n => ?_) (fun l hl => ?_) (fun k hk => ?_) d9 d6 (by omega) hq
  · rw [(d7 l (by omega)).2, (f4 l hl).2 n]
  · rw [(d7 l (by omega)).1, (f4 l hl).1]
  · refine ⟨by rw [(d8 k (by omega)).1, (f9 k hk).1], fun m hm => ?_⟩
    rw [(d8 k (by omega)).2 m hm, (f9 k hk).2 m hm]
end CL
