/-! ===== what the class keeps of its law ===== -/
noncomputable def dsI (E : Nat → Nat → Prop) (a b : Nat) : Int32 := @dite Int32 (∃ n, lst E a b n) (Classical.propDecidable _) (fun p => nI (Classical.choose p)) (fun _ => -1)
theorem dst_I {E : Nat → Nat → Prop} {a b : Nat} {v : Int32} (d : dst E a b v) : v = dsI E a b := by
  unfold dsI
  rcases d with ⟨e, q⟩ | ⟨n, e, _, q⟩
  · have no : ¬ ∃ n, lst E a b n := fun ⟨n, y⟩ => q n y.1
    rw [e, dif_neg no]
  · have yes : ∃ n, lst E a b n := ⟨n, q⟩
    rw [e, dif_pos yes, lst_u q (Classical.choose_spec yes)]
/-- how far one sees -/
noncomputable def sgv (A : Nat → Nat) (a b : Nat) : Int := (dsI (Ew A (shS A)) a b).toInt
theorem sgv_in {A : Nat → Nat} {a b : Nat} {v : Int32} (d : dst (Ew A (shS A)) a b v) : v.toInt = sgv A a b ∧ -1 ≤ sgv A a b ∧ sgv A a b ≤ 11 := by
  have e : v.toInt = sgv A a b := by unfold sgv; rw [← dst_I d]
  refine ⟨e, ?_⟩
  rw [← e]
  rcases d with ⟨e, _⟩ | ⟨n, e, hn, _⟩
  · rw [e]; exact ⟨by decide, by decide⟩
  · rw [e, nI_toInt (by omega)]; omega
def usd (h : ah_T) (what : Nat) : Int32 := match ah_r h 38 3 with
  | none => 0
  | some x => ah_i h (x + 3) what
def hlk (u : Int32) (mi : Nat) : Nat := if bt u 5 = true then mi else 0
/-- whom lamp l shuns -/
def htB (L : Option (List Cl)) (wi mo : Nat) (A : Nat → Nat) (l la mi : Nat) (v : Int32) : Prop := ∀ i, i < 32 → (bt v i = true ↔ i < A 246 ∧ i ≠ l ∧ ansA L 0 (wQ l (A (61 + 3 * l)) (A (61 + 3 * i)) (sgv A (A (60 + 3 * l)) (A (60 + 3 * i))) la mi wi mo) = 1)
/-- who shuns a lantern of kind k at corner c -/
def feB (L : Option (List Cl)) (wi mo : Nat) (A : Nat → Nat) (k c mi : Nat) (v : Int32) : Prop := ∀ i, i < 32 → (bt v i = true ↔ i < A 246 ∧ ansA L 0 (wQ i (A (61 + 3 * i)) k (sgv A (A (60 + 3 * i)) c) 1 mi wi mo) = 1)
def thV (L : Option (List Cl)) (wi mo : Nat) (A : Nat → Nat) (l mi : Nat) : Nat := ansA L 2 (wQ l (A (61 + 3 * l)) (-1) (-1) (-1) mi wi mo)
def hfO (L : Option (List Cl)) (wi mo : Nat) (A : Nat → Nat) (h : ah_T) : Prop :=
  (∀ mi la l, mi < 120 → la < 2 → l < A 246 → ah_i h 40 ((hlk (usd h 0) mi * 2 + la) * 10 + l) = -1 ∨ htB L wi mo A l la mi (ah_i h 40 ((hlk (usd h 0) mi * 2 + la) * 10 + l))) ∧
  (∀ mi k c, mi < 120 → k < 6 → c < 12 → ah_i h 41 ((hlk (usd h 0) mi * 6 + k) * 12 + c) = -1 ∨ feB L wi mo A k c mi (ah_i h 41 ((hlk (usd h 0) mi * 6 + k) * 12 + c))) ∧
  (∀ mi l, mi < 120 → l < A 246 → ah_i h 42 (hlk (usd h 2) mi * 10 + l) = -1 ∨ ah_i h 42 (hlk (usd h 2) mi * 10 + l) = nI (thV L wi mo A l mi))
theorem hlk_lt {u : Int32} {mi : Nat} (hm : mi < 120) : hlk u mi < 120 := by unfold hlk; split <;> omega
/-- the law in force, as the class holds it -/
def lgO (A : Nat → Nat) (h : ah_T) : Prop := ah_i h 1 8 = nI (A 251) ∧ ah_i h 1 9 = nO (A 252) ∧ A 252 ≤ A 251 ∧ A 251 ≤ 6 ∧ ah_i h 14 0 = nI (A 242) ∧ ah_i h 14 2 = nI (A 244) ∧ A 242 ≤ 9 ∧ A 244 ≤ 9 ∧ ∀ t, t < A 251 → ∃ x, ah_r h 15 t = some x ∧ TXm h x (fun k => A (260 + 400 * t + k)) (fun k => A (3060 + 400 * t + k)) (A (253 + t))
theorem lgO_of {A : Nat → Nat} {h : ah_T} (wf : WF A) (tn : Tn TXm A h 1 84 0) : lgO A h := by
  obtain ⟨w1, w2, w3⟩ := wf.2.2.2.2.2.2.2
  obtain ⟨v1, v2, v3, v4⟩ := wf.2.2.2.2.2.2.1
  obtain ⟨r1, r2, r3, r4, r5, _⟩ := tn.2.2.2.2.2.2.2
  have q0 := tn.2.2.2.2.2.2.1 0 (by omega)
  have q2 := tn.2.2.2.2.2.2.1 2 (by omega)
  exact ⟨r1, r2, w2, w1, q0.1, q2.1, v1, v4, fun t ht => by obtain ⟨s1, s2, x, s3, s4⟩ := r5 t ht; exact ⟨x, s3, s4⟩⟩
section HD
variable {h : ah_T} {A : Nat → Nat}
theorem c_law {Q : Option Value → ah_T → Prop} (hs : Sh h) (lg : lgO A h) (hq : ∀ r : Option Nat, (match lawL A with | none => r = none | some cls => ∃ x, r = some x ∧ tx h x false cls ∧ ∀ cl ∈ cls, clL cl) → Q (some (va_rf r)) h) : Mt mX10_lawInForce [.ref 1] h Q := by
  obtain ⟨l1, l2, l3, l4, l5, l6, l7, l8, l9⟩ := lg
  refine T_X10_lawInForce hs ?_
  rw [l1, l2]
  by_cases c0 : A 252 = 0
  · have e : nO (A 252) = -1 := by rw [c0]; rfl
    rw [e]
    have z : f_X11_isIn (-1) (nI (A 251)) = 0 := by unfold f_X11_isIn; grind
    (first | refine ⟨fun _ => ?_, fun n_ => absurd (z) n_⟩ | refine ⟨fun n_ => absurd (z) n_, fun _ => ?_⟩ | refine ⟨fun y_ => absurd y_ (z), fun _ => ?_⟩ | refine ⟨fun _ => ?_, fun y_ => absurd y_ (z)⟩)
    refine hq none ?_
    unfold lawL
    rw [if_pos c0]
  · obtain ⟨f, ef⟩ : ∃ f, A 252 = f + 1 := ⟨A 252 - 1, by omega⟩
    rw [ef, nO_s]
    obtain ⟨x, s3, s4, s5⟩ := l9 f (by omega)
    have z : ¬ f_X11_isIn (nI f) (nI (A 251)) = 0 := by
      have h1 := nI_pos (n := f) (by omega)
      have h2 : nI f < nI (A 251) := nI_lt (by omega) (by omega)
      unfold f_X11_isIn
      grind
    (first | refine ⟨fun _ => ?_, fun n_ => absurd (z) n_⟩ | refine ⟨fun n_ => absurd (z) n_, fun _ => ?_⟩ | refine ⟨fun y_ => absurd y_ (z), fun _ => ?_⟩ | refine ⟨fun _ => ?_, fun y_ => absurd y_ (z)⟩)
    (first | refine ⟨fun _ => ?_, fun n_ => absurd (show ¬ 6 ≤ nI f from nI_ge (b := 6) (by omega) (by omega)) n_⟩ | refine ⟨fun n_ => absurd (show ¬ 6 ≤ nI f from nI_ge (b := 6) (by omega) (by omega)) n_, fun _ => ?_⟩ | refine ⟨fun y_ => absurd y_ (show ¬ 6 ≤ nI f from nI_ge (b := 6) (by omega) (by omega)), fun _ => ?_⟩ | refine ⟨fun _ => ?_, fun y_ => absurd y_ (show ¬ 6 ≤ nI f from nI_ge (b := 6) (by omega) (by omega))⟩)
    rw [nI_clamp (show f < 2 ^ 31 by omega), sh_n hs 15 6 (by decide) (by decide) rfl, s3]
    refine ⟨(vp_nI (by omega)).mpr (by omega), fun y => (nomatch y), fun b y => ?_⟩
    cases y
    refine ⟨s5.1.2.2.1, hq (some x) ?_⟩
    unfold lawL
    rw [if_neg c0, ef]
    exact ⟨x, rfl, s5, (lwR_L s4).2⟩
theorem usd_n (e : ah_r h 38 3 = none) (what : Nat) : usd h what = 0 := by unfold usd; rw [e]
theorem usd_s {x : Nat} (e : ah_r h 38 3 = some x) (what : Nat) : usd h what = ah_i h (x + 3) what := by unfold usd; rw [e]
theorem c_heeds {Q : Option Value → ah_T → Prop} (hs : Sh h) {L : Option (List Cl)} (l0 : lwO L h) {what b : Nat} {x1 x2 : Int32} (e1 : x1 = nI what) (e2 : x2 = nI b) (hw : what < 3) (hb : b < 32)
    (hq : Q (some (.int (if bt (usd h what) b = true then 1 else 0))) h) : Mt mX8_heeds [.ref 38, .int x1, .int x2] h Q := by
  subst e1 e2
  refine T_X8_heeds hs _ _ ⟨fun z => ?_, fun x z => ?_⟩
  · rw [usd_n z, if_neg (by rw [b_0]; decide)] at hq
    exact hq
  · cases L with
    | none =>
      have l0' : ah_r h 38 3 = none := l0
      rw [z] at l0'; cases l0'
    | some cls =>
      obtain ⟨y, ey, tt, hL⟩ := l0
      have e : x = y := Option.some.inj (z.symm.trans ey)
      subst e
      rw [usd_s z] at hq
      refine ⟨tt.1.2.2.1, fun y => ?_, fun b2 y => ?_⟩
      · rw [z] at y; cases y
      have e : b2 = x := Option.some.inj (y.symm.trans z)
      subst e
      obtain ⟨⟨t1, t2, t3, t4, t5, t6⟩, t7, t8, t9, t10, t11, t12, t13, _⟩ := tt
      refine ⟨t3, _, t9, t6, by rw [t13]; exact (vp_nI (by omega)).mpr (by omega), ?_⟩
      rw [nI_clamp (show what < 2 ^ 31 by omega)]
      refine ⟨fun y => ?_, fun y => ?_⟩
      · rw [if_neg (by rw [(b_bit _ b hb).mp y]; decide)] at hq
        exact hq
      · have : bt (ah_i h (b2 + 3) what) b = true := by
          cases q : bt (ah_i h (b2 + 3) what) b
          · exact absurd ((b_bit _ b hb).mpr q) y
          · rfl
        rw [if_pos this] at hq
        exact hq
end HD
