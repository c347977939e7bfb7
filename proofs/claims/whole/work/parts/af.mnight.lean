/-! ===== nights, a minute: switches, waiting ones, then who goes; the model's minute ===== -/
def swS (S : Ns) (l on m : Nat) : Ns := (fun x => if x = l then decide (on = 1) && decide (0 < S.oi l) else S.bu x, fun x => if x = l ∧ on = 1 then m else S.si x, fun x => if x = l then 0 else S.ou x, S.oi)
def npr (A : Nat → Nat) (S : Ns) (m : Nat) : Nat → Ns
  | 0 => S
  | k + 1 => if A (91 + 3 * k) = m then swS (npr A S m k) (A (90 + 3 * k)) (A (92 + 3 * k)) m else npr A S m k
def wkB (A : Nat → Nat) (S : Ns) (m x : Nat) : Bool := decide (S.ou x ≠ 0 ∧ S.ou x - 1 + A 243 = m)
def wkS (A : Nat → Nat) (S : Ns) (m b : Nat) : Ns := (fun x => if x < b ∧ wkB A S m x = true then decide (0 < S.oi x) else S.bu x, fun x => if x < b ∧ wkB A S m x = true then m else S.si x, fun x => if x < b ∧ wkB A S m x = true then 0 else S.ou x, S.oi)
def fiS (A : Nat → Nat) (N : Nd) (S : Ns) (g : Nat → Bool) (m b : Nat) : Ns := (fun x => if x < b then (S.bu x && !g x) && decide (0 < S.oi x - drkA A x (N.ki x) m) else S.bu x, S.si, fun x => if x < b ∧ g x = true then m + 1 else S.ou x, fun x => if x < b ∧ (S.bu x && !g x) = true then S.oi x - drkA A x (N.ki x) m else S.oi x)
/-- behind switches and waiting ones -/
def wkM (A : Nat → Nat) (N : Nd) (S : Ns) (m : Nat) : Ns := wkS A (npr A S m (A 247)) m N.n
noncomputable def goM (A : Nat → Nat) (N : Nd) (S : Ns) (m l : Nat) : Bool := (wkM A N S m).bu l && drB A N (wkM A N S m) m l
def liM (A : Nat → Nat) (N : Nd) (S : Ns) (g : Nat → Bool) (m l : Nat) : Bool := (wkM A N S m).bu l && !g l
noncomputable def miM (A : Nat → Nat) (N : Nd) (S : Ns) (m : Nat) : Ns := fiS A N (wkM A N S m) (goM A N S m) m N.n
/-- how many -/
def cb (f : Nat → Bool) : Nat → Nat
  | 0 => 0
  | n + 1 => cb f n + (if f n = true then 1 else 0)
theorem cb_le (f : Nat → Bool) : ∀ n, cb f n ≤ n
  | 0 => Nat.le_refl _
  | n + 1 => by have := cb_le f n; show cb f n + (if f n = true then 1 else 0) ≤ n + 1; split <;> omega
theorem cb_ext {f g : Nat → Bool} : ∀ {n : Nat}, (∀ x, x < n → f x = g x) → cb f n = cb g n
  | 0, _ => rfl
  | n + 1, e => by show cb f n + (if f n = true then 1 else 0) = cb g n + (if g n = true then 1 else 0); rw [cb_ext (fun x hx => e x (by omega)), e n (by omega)]
/-- the model's switches, oils, rest -/
def mSw (A : Nat → Nat) (h : ah_T) : Prop := ah_i h 84 247 = nI (A 247) ∧ wfS A ∧ (∀ j, j < 3 * A 247 → ah_i h 84 (90 + j) = nI (A (90 + j))) ∧ ah_i h 84 243 = nI (A 243) ∧ wfT A ∧ ah_i h 84 246 = nI (A 246) ∧ wfL A ∧ ∀ j, j < 3 * A 246 → ah_i h 84 (60 + j) = nI (A (60 + j))
theorem mSw_fr {A : Nat → Nat} {h h' : ah_T} (e : ∀ j, ah_i h' 84 j = ah_i h 84 j) (m : mSw A h) : mSw A h' := by
  unfold mSw at m ⊢
  simp only [e]
  exact m
theorem mSw_of {A : Nat → Nat} {h : ah_T} (wf : WF A) (tn : Tn TXm A h 1 84 0) : mSw A h := by
  obtain ⟨_, ⟨q1, q2, q3, q4, q5, q6⟩, ⟨p1, p2, p3, p4, p5, p6⟩, _, _, _, t7, _⟩ := tn
  have t := (t7 1 (by omega)).2
  simp only [Nat.zero_add] at t q4 q6 p4 p6
  exact ⟨p4, wf.2.2.1, fun j hj => (p6 j hj).2.1, t, wf.2.2.2.2.2.2.1, q4, wf.2.1, fun j hj => (q6 j hj).2.1⟩
/-- what a night's minutes of the model change -/
def ngF (h h' : ah_T) : Prop := Sh h' ∧ ah_x h' = ah_x h ∧ (∀ a, a ≠ 82 → a ≠ 93 → a ≠ 95 → a ≠ 96 → a ≠ 97 → a ≠ 102 → a ≠ 103 → a ≠ 104 → a ≠ 105 → a ≠ 106 → a ≠ 109 → a ≠ 110 → a ≠ 111 → eqc h h' a) ∧ ∀ j, j ≠ 20 → j ≠ 21 → j ≠ 22 → j ≠ 23 → j ≠ 29 → j ≠ 47 → j ≠ 48 → ah_i h' 82 j = ah_i h 82 j
def ngC (a j : Nat) : Prop := a = 102 ∨ a = 103 ∨ a = 104 ∨ a = 105 ∨ a = 106 ∨ a = 109 ∨ a = 110 ∨ a = 111 ∨ (a = 82 ∧ (j = 47 ∨ j = 48))
def mBa (A : Nat → Nat) (N : Nd) (h : ah_T) : Prop := mLw A h ∧ mKn A h ∧ mND A N h ∧ mSw A h ∧ A 246 ≤ N.n
section NF
variable {A : Nat → Nat} {N : Nd} {h g h1 : ah_T}
theorem ngF_r (hs : Sh h) : ngF h h := ⟨hs, rfl, fun _ _ _ _ _ _ _ _ _ _ _ _ _ _ => eqc_rfl, fun _ _ _ _ _ _ _ _ => rfl⟩
theorem ngF_t (p : ngF h g) (q : ngF g h1) : ngF h h1 := ⟨q.1, by rw [q.2.1, p.2.1], fun a n1 n2 n3 n4 n5 n6 n7 n8 n9 n10 n11 n12 n13 => eqc_trans (p.2.2.1 a n1 n2 n3 n4 n5 n6 n7 n8 n9 n10 n11 n12 n13) (q.2.2.1 a n1 n2 n3 n4 n5 n6 n7 n8 n9 n10 n11 n12 n13), fun j a1 a2 a3 a4 a5 a6 a7 => by rw [q.2.2.2 j a1 a2 a3 a4 a5 a6 a7, p.2.2.2 j a1 a2 a3 a4 a5 a6 a7]⟩
theorem ngF_k (p : knF h g) : ngF h g := ⟨p.1, p.2.1, fun a n1 n2 n3 n4 n5 _ _ _ _ _ _ _ _ => p.2.2.1 a n1 n2 n3 n4 n5, fun j a1 a2 a3 a4 a5 _ _ => p.2.2.2 j a1 a2 a3 a4 a5⟩
theorem ngF_s {a j : Nat} {x : Int32} (o : ngC a j) (p : ngF h g) : ngF h (ah_si g a j x) := by
  unfold ngC at o
  refine ⟨sh_si p.1, by rw [ah_x_si, p.2.1], fun b n1 n2 n3 n4 n5 n6 n7 n8 n9 n10 n11 n12 n13 => eqc_si (p.2.2.1 b n1 n2 n3 n4 n5 n6 n7 n8 n9 n10 n11 n12 n13) (by omega), fun i a1 a2 a3 a4 a5 a6 a7 => ?_⟩
  rw [ah_i_sn (by omega)]
  exact p.2.2.2 i a1 a2 a3 a4 a5 a6 a7
theorem mBa_k (f : knF h g) (k : mKw A g) (b : mBa A N h) : mBa A N g := by
  have e : ∀ a, a ≠ 82 → a ≠ 93 → a ≠ 95 → a ≠ 96 → a ≠ 97 → ∀ j, ah_i g a j = ah_i h a j := fun a n1 n2 n3 n4 n5 => (f.2.2.1 a n1 n2 n3 n4 n5).1
  exact ⟨mLw_fr (e 84 (by decide) (by decide) (by decide) (by decide) (by decide)) b.1, ⟨Int.le_of_eq (congrArg Int32.toInt k.1), fun _ => k.2⟩, mND_fr (fun b hb => e b (by omega) (by omega) (by omega) (by omega) (by omega)) (fun j hj => f.2.2.2 j (by omega) (by omega) (by omega) (by omega) (by omega)) b.2.2.1, mSw_fr (e 84 (by decide) (by decide) (by decide) (by decide) (by decide)) b.2.2.2.1, b.2.2.2.2⟩
theorem mBa_s {a j : Nat} {x : Int32} (o : ngC a j) (b : mBa A N g) : mBa A N (ah_si g a j x) := by
  unfold ngC at o
  obtain ⟨b1, b2, b3, b4, b5⟩ := b
  refine ⟨mLw_fr (fun i => ah_i_sn (by omega)) b1, ⟨?_, ?_⟩, mND_fr (fun c hc i => ah_i_sn (by omega)) (fun i hi => ah_i_sn (by omega)) b3, mSw_fr (fun i => ah_i_sn (by omega)) b4, b5⟩
  · unfold kvO
    rw [ah_i_sn (by omega), ah_i_sn (by omega)]
    exact b2.1
  intro e
  rw [ah_i_sn (by omega), ah_i_sn (by omega)] at e
  obtain ⟨k1, k2, k3⟩ := b2.2 e
  refine ⟨fun l k o' ne la mi z1 z2 z3 z4 z5 z6 => ?_, fun l k mi z1 z2 z3 => ?_, fun l k mi z1 z2 z3 => ?_⟩
  · rw [ah_i_sn (by omega)]; exact k1 l k o' ne la mi z1 z2 z3 z4 z5 z6
  · rw [ah_i_sn (by omega)]; exact k2 l k mi z1 z2 z3
  · rw [ah_i_sn (by omega)]; exact k3 l k mi z1 z2 z3
theorem mBa_A {S : Ns} (b : mBa A N g) (s : mNS N S g) : mAl A N S g := ⟨b.1, b.2.1, b.2.2.1, s⟩
/-- a night's state of which one lamp is another -/
theorem mNS_up {S S' : Ns} {l : Nat} (hl : l < N.n) (m : mNS N S g) (e : ∀ j, j ≠ l → ah_i h1 102 j = ah_i g 102 j ∧ ah_i h1 103 j = ah_i g 103 j ∧ ah_i h1 104 j = ah_i g 104 j ∧ ah_i h1 105 j = ah_i g 105 j)
    (e2 : ∀ j, j ≠ l → S'.bu j = S.bu j ∧ S'.si j = S.si j ∧ S'.ou j = S.ou j ∧ S'.oi j = S.oi j) (w : S'.si l < 120 ∧ S'.ou l ≤ 120 ∧ S'.oi l ≤ 240)
    (v : ah_i h1 105 l = bI (S'.bu l) ∧ ah_i h1 103 l = nI (S'.si l) ∧ ah_i h1 104 l = nO (S'.ou l) ∧ ah_i h1 102 l = nI (S'.oi l)) : mNS N S' h1 := by
  refine ⟨fun j hj => ?_, fun j hj => ?_⟩
  · by_cases z : j = l
    · subst z; exact w
    · obtain ⟨q1, q2, q3, q4⟩ := e2 j z
      rw [q2, q3, q4]; exact m.1 j hj
  · by_cases z : j = l
    · subst z; exact v
    · obtain ⟨q1, q2, q3, q4⟩ := e2 j z
      obtain ⟨r1, r2, r3, r4⟩ := e j z
      rw [q1, q2, q3, q4, r1, r2, r3, r4]; exact m.2 j hj
theorem mNS_ex {S S' : Ns} (m : mNS N S g) (e2 : ∀ j, j < N.n → S'.bu j = S.bu j ∧ S'.si j = S.si j ∧ S'.ou j = S.ou j ∧ S'.oi j = S.oi j) : mNS N S' g := by
  refine ⟨fun j hj => ?_, fun j hj => ?_⟩
  · obtain ⟨q1, q2, q3, q4⟩ := e2 j hj
    rw [q2, q3, q4]; exact m.1 j hj
  · obtain ⟨q1, q2, q3, q4⟩ := e2 j hj
    rw [q1, q2, q3, q4]; exact m.2 j hj
theorem narZ (b : Bool) : vp_nar .boolean (bI b) = bI b := by cases b <;> decide
theorem nar0' : vp_nar .boolean 0 = bI false := by decide
theorem nar1' : vp_nar .boolean 1 = bI true := by decide
theorem m_burns0 {Q : Option Value → ah_T → Prop} (hs : Sh h) {l o : Nat} {x1 x2 : Int32} (e1 : x1 = nI l) (hl : l < 10) (eo : ah_i h 102 l = nI o) (ho : o ≤ 240) (hq : Q none (ah_si (ah_si (ah_si h 105 l (bI (decide (0 < o)))) 103 l x2) 104 l (-1))) : Mt mX12_burns0 [.ref 82, .int x1, .int x2] h Q := by
  subst e1
  have n102 : ah_n h 102 = 10 := sh_n hs 102 10 (by decide) (by decide) rfl
  have n103 : ah_n h 103 = 10 := sh_n hs 103 10 (by decide) (by decide) rfl
  have n104 : ah_n h 104 = 10 := sh_n hs 104 10 (by decide) (by decide) rfl
  have n105 : ah_n h 105 = 10 := sh_n hs 105 10 (by decide) (by decide) rfl
  have vl : vp_in (nI l) 10 := (vp_nI (by omega)).mpr hl
  refine T_X12_burns0 hs _ _ ?_
  rw [nI_clamp (show l < 2 ^ 31 by omega), eo, n102, n105]
  refine ⟨vl, ?_⟩
  rcases Nat.eq_zero_or_pos o with z | z
  · subst z
    (first | refine ⟨fun _ => ?_, fun n_ => absurd (show nI 0 ≤ 0 by decide) n_⟩ | refine ⟨fun n_ => absurd (show nI 0 ≤ 0 by decide) n_, fun _ => ?_⟩ | refine ⟨fun y_ => absurd y_ (show nI 0 ≤ 0 by decide), fun _ => ?_⟩ | refine ⟨fun _ => ?_, fun y_ => absurd y_ (show nI 0 ≤ 0 by decide)⟩)
    refine ⟨vl, ?_⟩
    rintro h4 rfl
    rw [ah_n_si, n103]
    refine ⟨vl, ?_⟩
    rintro h8 rfl
    rw [ah_n_si, ah_n_si, n104]
    refine ⟨vl, ?_⟩
    rintro h12 rfl
    exact hq
  · (first | refine ⟨fun _ => ?_, fun n_ => absurd (show ¬ nI o ≤ 0 from nI_ge (b := o) z (by omega)) n_⟩ | refine ⟨fun n_ => absurd (show ¬ nI o ≤ 0 from nI_ge (b := o) z (by omega)) n_, fun _ => ?_⟩ | refine ⟨fun y_ => absurd y_ (show ¬ nI o ≤ 0 from nI_ge (b := o) z (by omega)), fun _ => ?_⟩ | refine ⟨fun _ => ?_, fun y_ => absurd y_ (show ¬ nI o ≤ 0 from nI_ge (b := o) z (by omega))⟩)
    refine ⟨vl, ?_⟩
    rintro h4 rfl
    rw [ah_n_si, n103]
    refine ⟨vl, ?_⟩
    rintro h8 rfl
    rw [ah_n_si, ah_n_si, n104]
    refine ⟨vl, ?_⟩
    rintro h12 rfl
    rw [decide_eq_true z] at hq
    exact hq
end NF
