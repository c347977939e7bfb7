/-! ===== one lantern more: nights alike; minutes added up ===== -/
section CY
variable {A : Nat → Nat} {N : Nd} {h g h1 : ah_T} {g0 sp n k : Nat} {p : Nat → Nat} {S : Ns}
theorem drB_C {m l : Nat} (e : p m = 0) : drB A (ndC A k p) S m l = drB A (nd0 A) S m l := by
  have e1 : (List.range (A 248 + 1)).any (shK A (ndC A k p) m l) = (List.range (A 248)).any (shK A (nd0 A) m l) := by
    have q : ∀ x, x < A 248 → shK A (ndC A k p) m l x = shK A (nd0 A) m l x := by
      intro x hx
      show (decide ((if x = A 248 then p m else plA A x m) ≠ 0) && shS9 A l (A (61 + 3 * l)) (if x = A 248 then k else A (162 + 19 * x)) (sgN A (A (60 + 3 * l)) ((if x = A 248 then p m else plA A x m) - 1)) 1 m) = (decide (plA A x m ≠ 0) && shS9 A l (A (61 + 3 * l)) (A (162 + 19 * x)) (sgN A (A (60 + 3 * l)) (plA A x m - 1)) 1 m)
      rw [if_neg (by omega), if_neg (by omega)]
    have q2 : shK A (ndC A k p) m l (A 248) = false := by
      show (decide ((if A 248 = A 248 then p m else plA A (A 248) m) ≠ 0) && _) = false
      rw [if_pos rfl, e]
      rfl
    cases y : (List.range (A 248)).any (shK A (nd0 A) m l)
    · refine anyF (fun x hx => ?_)
      by_cases z : x = A 248
      · rw [z]; exact q2
      · rw [q x (by omega)]
        cases w : shK A (nd0 A) m l x
        · rfl
        · rw [anyT (show x < A 248 by omega) w] at y; exact absurd y (by decide)
    · obtain ⟨x, hx, w⟩ := any_t.mp y
      exact anyT (show x < A 248 + 1 by omega) ((q x hx).trans w)
  show ((List.range (A 246)).any (drO A (ndC A k p) S m l) || (List.range (A 248 + 1)).any (shK A (ndC A k p) m l)) = ((List.range (A 246)).any (drO A (nd0 A) S m l) || (List.range (A 248)).any (shK A (nd0 A) m l))
  rw [e1]
  rfl
theorem goM_C {m : Nat} (e : p m = 0) : goM A (ndC A k p) S m = goM A (nd0 A) S m := by
  funext l
  show ((wkM A (ndC A k p) S m).bu l && drB A (ndC A k p) (wkM A (ndC A k p) S m) m l) = _
  rw [drB_C e]
  rfl
theorem miM_C {m : Nat} (e : p m = 0) : miM A (ndC A k p) S m = miM A (nd0 A) S m := by
  show fiS A (ndC A k p) (wkM A (ndC A k p) S m) (goM A (ndC A k p) S m) m (A 246) = _
  rw [goM_C e]
  rfl
theorem nSt_C {m : Nat} (e : ∀ x, x < m → p x = 0) : ∀ x, x ≤ m → nSt A (ndC A k p) x = nSt A (nd0 A) x
  | 0, _ => rfl
  | x + 1, hx => by
    rw [nSt_s, nSt_s, nSt_C e x (by omega), miM_C (e x (by omega))]
theorem litM_C {m : Nat} (e : ∀ x, x < m → p x = 0) {x : Nat} (hx : x < m) : litM A (ndC A k p) x = litM A (nd0 A) x := by
  funext l
  show liM A (ndC A k p) (nSt A (ndC A k p) x) (goM A (ndC A k p) (nSt A (ndC A k p) x) x) x l = _
  rw [nSt_C e x (by omega), goM_C (e x hx)]
  rfl
theorem ct_mono (f : Nat → Nat → Bool) (b : Nat) {a : Nat} : ∀ {m : Nat}, a ≤ m → ct f b a ≤ ct f b m
  | 0, h => by rw [show a = 0 by omega]; exact Nat.le_refl _
  | m + 1, h => by
    by_cases z : a = m + 1
    · rw [z]; exact Nat.le_refl _
    · have := ct_mono f b (show a ≤ m by omega)
      show ct f b a ≤ ct f b m + cb (f m) b
      omega
theorem ct_C {b m : Nat} (e : ∀ x, x < m → p x = 0) : ct (litM A (ndC A k p)) b m = ct (litM A (nd0 A)) b m := ct_ext (fun _ hx l _ => congrFun (litM_C e hx) l)
theorem cb_cut {f q : Nat → Bool} {b : Nat} : ∀ {K : Nat}, b ≤ K → (∀ i, i < K → (f i = true ↔ i < b ∧ q i = true)) → cb f K = cb q b
  | 0, h, _ => by rw [show b = 0 by omega]; rfl
  | K + 1, h, e => by
    have eK := e K (by omega)
    by_cases z : b = K + 1
    · subst z
      refine cb_ext (fun x hx => ?_)
      have := e x hx
      cases y : q x
      · cases w : f x
        · rfl
        · rw [(this.mp w).2] at y; exact absurd y (by decide)
      · exact this.mpr ⟨hx, y⟩
    · have := cb_cut (f := f) (q := q) (show b ≤ K by omega) (fun i hi => e i (by omega))
      show cb f K + (if f K = true then 1 else 0) = _
      rw [if_neg (fun y => by have := (eK.mp y).1; omega), this]
      rfl
theorem bc_lit {r : Int32} {q : Nat → Bool} {b : Nat} (h10 : b ≤ 10) (hr : ∀ i, i < 32 → (bt r i = true ↔ i < b ∧ q i = true)) : f_J6_bitCount_0f7a4 r = nI (cb q b) := by
  obtain ⟨j, hj, ej⟩ := small_b (x := r) (w := 10) (fun i hi y => by have := ((hr i hi).mp y).1; omega)
  have bc := bc_10 j (by omega)
  rw [← ej] at bc
  rw [bc, cb_cut (show b ≤ 20 by omega) (fun i hi => hr i (by omega))]
theorem c_litFrom {Q : Option Value → ah_T → Prop} (hs : Sh h) {m0 till bound : Nat} {x1 x2 x3 : Int32} (rn : cRn g0 A N sp m0 h) (e1 : x1 = nI m0) (e2 : x2 = nI till) (e3 : x3 = nI bound) (ht : till ≤ 120) (hm : m0 ≤ till) (hb : bound ≤ 1201)
    (hq : ∀ g x, m0 ≤ x → x ≤ till → (x = till ∨ bound ≤ ct (litM A N) N.n x - ct (litM A N) N.n m0) → cyF h g → cyK h g → cRn g0 A N sp x g → Q (some (.int (nI (ct (litM A N) N.n x - ct (litM A N) N.n m0)))) g) : Mt mX1_litFrom [.ref 62, .int x1, .int x2, .int x3] h Q := by
  subst e1 e2 e3
  have n10 : N.n ≤ 10 := (cRn_c rn).2.2.1.1
  have lp : ∀ (q x : Nat) (u : ah_T), x + q = till → m0 ≤ x → cyF h u → cyK h u → cRn g0 A N sp x u → Wp mX1_litFrom Q 0 0 6 [some (.ref 62), none, some (.int (nI till)), some (.int (nI bound)), some (.int (nI (ct (litM A N) N.n x - ct (litM A N) N.n m0))), some (.int (nI x))] [] u := by
    intro q
    induction q with
    | zero =>
      intro x u hx h0 f k rn
      have e9 : x = till := by omega
      subst e9
      refine T_X1_litFrom_6 f.1 _ _ _ _ ?_
      (first | refine ⟨fun _ => ?_, fun n_ => absurd (show nI x ≤ nI x from nI_le (Nat.le_refl _) (by omega)) n_⟩ | refine ⟨fun n_ => absurd (show nI x ≤ nI x from nI_le (Nat.le_refl _) (by omega)) n_, fun _ => ?_⟩ | refine ⟨fun y_ => absurd y_ (show nI x ≤ nI x from nI_le (Nat.le_refl _) (by omega)), fun _ => ?_⟩ | refine ⟨fun _ => ?_, fun y_ => absurd y_ (show nI x ≤ nI x from nI_le (Nat.le_refl _) (by omega))⟩)
      exact hq u x h0 (Nat.le_refl _) (.inl rfl) f k rn
    | succ q ih =>
      intro x u hx h0 f k rn
      have c1 := ct_le (litM A N) N.n x
      have c1b : x * N.n ≤ 120 * 10 := Nat.mul_le_mul (by omega) n10
      have c2 := ct_mono (litM A N) N.n h0
      refine T_X1_litFrom_6 f.1 _ _ _ _ ?_
      (first | refine ⟨fun _ => ?_, fun n_ => absurd (show ¬ nI till ≤ nI x from nI_ge (by omega) (by omega)) n_⟩ | refine ⟨fun n_ => absurd (show ¬ nI till ≤ nI x from nI_ge (by omega) (by omega)) n_, fun _ => ?_⟩ | refine ⟨fun y_ => absurd y_ (show ¬ nI till ≤ nI x from nI_ge (by omega) (by omega)), fun _ => ?_⟩ | refine ⟨fun _ => ?_, fun y_ => absurd y_ (show ¬ nI till ≤ nI x from nI_ge (by omega) (by omega))⟩)
      by_cases z : bound ≤ ct (litM A N) N.n x - ct (litM A N) N.n m0
      · (first | refine ⟨fun _ => ?_, fun n_ => absurd (show nI bound ≤ nI (ct (litM A N) N.n x - ct (litM A N) N.n m0) from nI_le z (by omega)) n_⟩ | refine ⟨fun n_ => absurd (show nI bound ≤ nI (ct (litM A N) N.n x - ct (litM A N) N.n m0) from nI_le z (by omega)) n_, fun _ => ?_⟩ | refine ⟨fun y_ => absurd y_ (show nI bound ≤ nI (ct (litM A N) N.n x - ct (litM A N) N.n m0) from nI_le z (by omega)), fun _ => ?_⟩ | refine ⟨fun _ => ?_, fun y_ => absurd y_ (show nI bound ≤ nI (ct (litM A N) N.n x - ct (litM A N) N.n m0) from nI_le z (by omega))⟩)
        exact hq u x h0 (by omega) (.inr z) f k rn
      · (first | refine ⟨fun _ => ?_, fun n_ => absurd (show ¬ nI bound ≤ nI (ct (litM A N) N.n x - ct (litM A N) N.n m0) from nI_ge (by omega) (by omega)) n_⟩ | refine ⟨fun n_ => absurd (show ¬ nI bound ≤ nI (ct (litM A N) N.n x - ct (litM A N) N.n m0) from nI_ge (by omega) (by omega)) n_, fun _ => ?_⟩ | refine ⟨fun y_ => absurd y_ (show ¬ nI bound ≤ nI (ct (litM A N) N.n x - ct (litM A N) N.n m0) from nI_ge (by omega) (by omega)), fun _ => ?_⟩ | refine ⟨fun _ => ?_, fun y_ => absurd y_ (show ¬ nI bound ≤ nI (ct (litM A N) N.n x - ct (litM A N) N.n m0) from nI_ge (by omega) (by omega))⟩)
        refine c_run1 f.1 rn rfl (by omega) (fun v r f1 k1 rn1 hr h7 ho => ⟨_, rfl, f1.1, ?_⟩)
        rw [bc_lit n10 hr, nI_add, nI_1]
        have e : ct (litM A N) N.n x - ct (litM A N) N.n m0 + cb (litM A N x) N.n = ct (litM A N) N.n (x + 1) - ct (litM A N) N.n m0 := by
          show _ = ct (litM A N) N.n x + cb (litM A N x) N.n - _
          omega
        rw [e]
        exact ih (x + 1) v (by omega) (by omega) (cyF_t f f1) (cyK_t k k1) rn1
  refine T_X1_litFrom hs _ _ _ ?_
  have st := lp (till - m0) m0 h (by omega) (Nat.le_refl _) (cyF_r hs) ⟨fun _ _ _ => rfl, fun _ _ => rfl⟩ rn
  rw [Nat.sub_self] at st
  exact st
theorem mND_C {k : Nat} {p : Nat → Nat} (hq : A 248 ≤ 2) (hk : k < 6) (hp : ∀ m, m < 120 → p m ≤ 12) (m : mND A (nd0 A) g) (e1 : ∀ a, (a = 99 ∨ a = 100 ∨ a = 101) → ∀ j, ah_i h a j = ah_i g a j) (e2 : ah_i h 82 41 = ah_i g 82 41) (e3 : ah_i h 82 43 = ah_i g 82 43) (e4 : ah_i h 82 42 = nI (A 248 + 1)) (e5 : ∀ j, j ≠ A 248 → ah_i h 108 j = ah_i g 108 j) (e6 : ah_i h 108 (A 248) = nI k) (e7 : ∀ j, j < 120 * A 248 → ah_i h 107 j = ah_i g 107 j) (e8 : ∀ j, j < 120 → ah_i h 107 (120 * A 248 + j) = nO (p j)) : mND A (ndC A k p) h := by
  obtain ⟨⟨d0, d1, d2, d3⟩, m2, m3, m4, m5, m6, m7⟩ := m
  refine ⟨⟨d0, d1, by show A 248 + 1 ≤ 3; omega, fun x hx => ?_⟩, e2.trans m2, e4, e3.trans m4, fun l hl => ?_, fun x hx => ?_, fun x y hx hy => ?_⟩
  · have hx2 : x < A 248 + 1 := hx
    show (if x = A 248 then k else A (162 + 19 * x)) < 6 ∧ ∀ m, m < 120 → (if x = A 248 then p m else plA A x m) ≤ 12
    by_cases z : x = A 248
    · rw [if_pos z]
      exact ⟨hk, fun m hm => by rw [if_pos z]; exact hp m hm⟩
    · rw [if_neg z]
      have := d3 x (by show x < A 248; omega)
      exact ⟨this.1, fun m hm => by rw [if_neg z]; exact this.2 m hm⟩
  · rw [e1 100 (by omega), e1 101 (by omega)]; exact m5 l hl
  · have hx2 : x < A 248 + 1 := hx
    show _ = nI (if x = A 248 then k else A (162 + 19 * x)) ∧ ∀ m, m < 120 → _ = nO (if x = A 248 then p m else plA A x m)
    by_cases z : x = A 248
    · rw [if_pos z, z]
      exact ⟨e6, fun m hm => by rw [if_pos rfl]; exact e8 m hm⟩
    · rw [if_neg z]
      have := m6 x (by show x < A 248; omega)
      refine ⟨by rw [e5 x z]; exact this.1, fun m hm => ?_⟩
      rw [if_neg z, e7 _ (by omega)]
      exact this.2 m hm
  · rw [e1 99 (by omega)]; exact m7 x y hx hy
end CY
