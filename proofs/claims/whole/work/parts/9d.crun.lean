/-! ===== rounds: what they do; the class runs a clause ===== -/
/-- the words of rounds over words of before -/
def wR (w0 : Nat → Int) (A : Nat → Nat) (b0 r : Nat) : Nat → Int := fun k => if k = 6 then A 242 else if k = 8 then A 246 else if k = 9 then A 247 else if k = 10 then (if A 247 = b0 then -1 else A (90 + (3 * (A 247 - 1) + 1))) else if k = 11 then ((A 247 - b0 : Nat) : Int) else if k = 12 then r else w0 k
def rwy (l t : Int) (A : Nat → Nat) : Int32 := if t < 0 ∨ 120 ≤ t then -3 else if l < 0 ∨ (A 246 : Int) ≤ l then -3 else if A 247 = 24 then -5 else 0
def rA1 (l t : Int) (on : Nat) (A : Nat → Nat) : Nat → Nat := if rwy l t A = 0 then up4 A 90 247 l.toNat t.toNat on else A
def ev1 (o : Option Mg) (w : Nat → Int) : Option Int := match o with
  | none => some 0
  | some m => m w
/-- one time: why it can't be (0: it can), the town then -/
def once (cl : Cl) (w : Nat → Int) (r : Nat) (A : Nat → Nat) : Int32 × (Nat → Nat) := match ev1 cl.2.1 w with
  | none => (-3, A)
  | some l => match ev1 cl.2.2.1 w with
    | none => (-3, A)
    | some t => match ev1 cl.2.2.2.1 w with
      | none => (-3, A)
      | some e => (rwy l (t + e * r) A, rA1 l (t + e * r) (if cl.1 = 3 then 1 else 0) A)
def pass (cl : Cl) (w : Nat → Int) : Bool := match cl.2.2.2.2.2 with
  | none => true
  | some t => match t w with
    | none => false
    | some b => b
def crun (cl : Cl) (w0 : Nat → Int) (b0 : Nat) : Nat → Nat → (Nat → Nat) → Int32 × (Nat → Nat)
  | 0, _, A => (0, A)
  | k + 1, r, A => if pass cl (wR w0 A b0 r) = true then (if (once cl (wR w0 A b0 r) r A).1 = 0 then crun cl w0 b0 k (r + 1) (once cl (wR w0 A b0 r) r A).2 else once cl (wR w0 A b0 r) r A) else crun cl w0 b0 k r A
def rnds (w0 : Nat → Int) (b0 : Nat) : List Cl → Nat → (Nat → Nat) → Int32 × Nat × (Nat → Nat)
  | [], i, A => (0, i, A)
  | c :: r, i, A => if (crun c w0 b0 c.2.2.2.2.1 0 A).1 = 0 then rnds w0 b0 r (i + 1) (crun c w0 b0 c.2.2.2.2.1 0 A).2 else ((crun c w0 b0 c.2.2.2.2.1 0 A).1, i, (crun c w0 b0 c.2.2.2.2.1 0 A).2)
/-- switches come behind those of before -/
def xt (A A' : Nat → Nat) : Prop := WF A' ∧ A 247 ≤ A' 247 ∧ (∀ j, j < 3 * A 247 → A' (90 + j) = A (90 + j)) ∧ ∀ j, (j < 90 ∨ 162 ≤ j) → j ≠ 247 → A' j = A j
theorem xt_r {A : Nat → Nat} (w : WF A) : xt A A := ⟨w, Nat.le_refl _, fun _ _ => rfl, fun _ _ _ => rfl⟩
theorem xt_t {A B C : Nat → Nat} (p : xt A B) (q : xt B C) : xt A C := ⟨q.1, Nat.le_trans p.2.1 q.2.1, fun j hj => by rw [q.2.2.1 j (by have := p.2.1; omega), p.2.2.1 j hj], fun j h1 h2 => by rw [q.2.2.2 j h1 h2, p.2.2.2 j h1 h2]⟩
theorem xt_1 {A : Nat → Nat} (wf : WF A) (l t : Int) (on : Nat) (ho : on < 2) : xt A (rA1 l t on A) := by
  unfold rA1
  by_cases c : rwy l t A = 0
  · rw [if_pos c]
    have h10 := wf.2.1.1
    have h24 := wf.2.2.1.1
    unfold rwy at c
    by_cases c1 : t < 0 ∨ 120 ≤ t
    · rw [if_pos c1] at c; exact absurd c (by decide)
    · rw [if_neg c1] at c
      by_cases c2 : l < 0 ∨ (A 246 : Int) ≤ l
      · rw [if_pos c2] at c; exact absurd c (by decide)
      · rw [if_neg c2] at c
        by_cases c3 : A 247 = 24
        · rw [if_pos c3] at c; exact absurd c (by decide)
        · have hA := tA_0 (A := A) (l := l.toNat) (m := t.toNat) (o := on) (x1 := nI l.toNat) (x2 := nI t.toNat) (x3 := nI on) h10 (by omega) (by omega) ho rfl rfl rfl (by omega)
          have hw := wf_tA (x1 := nI l.toNat) (x2 := nI t.toNat) (x3 := nI on) wf
          rw [hA] at hw
          refine ⟨hw, by rw [up4_m]; omega, fun j hj => up4_n (by omega) (by omega), fun j h1 h2 => up4_n h2 (by omega)⟩
  · rw [if_neg c]
    exact xt_r wf
theorem xt_once {A : Nat → Nat} (wf : WF A) (cl : Cl) (w : Nat → Int) (r : Nat) : xt A (once cl w r A).2 := by
  unfold once
  split
  · exact xt_r wf
  · split
    · exact xt_r wf
    · split
      · exact xt_r wf
      · exact xt_1 wf _ _ _ (by split <;> omega)
theorem xt_crun (cl : Cl) (w0 : Nat → Int) (b0 : Nat) : ∀ (k r : Nat) (A : Nat → Nat), WF A → xt A (crun cl w0 b0 k r A).2
  | 0, r, A, wf => xt_r wf
  | k + 1, r, A, wf => by
    have h1 := xt_once wf cl (wR w0 A b0 r) r
    unfold crun
    by_cases c : pass cl (wR w0 A b0 r) = true
    · rw [if_pos c]
      by_cases c2 : (once cl (wR w0 A b0 r) r A).1 = 0
      · rw [if_pos c2]
        exact xt_t h1 (xt_crun cl w0 b0 k (r + 1) _ h1.1)
      · rw [if_neg c2]
        exact h1
    · rw [if_neg c]
      exact xt_crun cl w0 b0 k r A wf
section CR
variable {h0 h : ah_T} {ro : Bool} {cls : List Cl} {x : Nat}
/-- what the class changes while it runs rounds -/
def qFr (h0 h : ah_T) : Prop := Sh h ∧ ah_x h = ah_x h0 ∧ (∀ a, a ≠ 6 → a ≠ 7 → a ≠ 26 → a ≠ 27 → a ≠ 28 → eqc h0 h a) ∧ (∀ j, j < 13 → (j < 6 ∨ j = 7) → ah_i h 27 j = ah_i h0 27 j) ∧ (wB h0 → wB h)
theorem qFr_t {h1 : ah_T} (p : qFr h0 h) (q : qFr h h1) : qFr h0 h1 := ⟨q.1, by rw [q.2.1, p.2.1], fun a n1 n2 n3 n4 n5 => eqc_trans (p.2.2.1 a n1 n2 n3 n4 n5) (q.2.2.1 a n1 n2 n3 n4 n5), fun j h1 h2 => by rw [q.2.2.2.1 j h1 h2, p.2.2.2.1 j h1 h2], fun w => q.2.2.2.2 (p.2.2.2.2 w)⟩
theorem qFr_r (hs : Sh h) : qFr h h := ⟨hs, rfl, fun _ _ _ _ _ _ => eqc_rfl, fun _ _ _ => rfl, fun w => w⟩
theorem tx_q (q : qFr h0 h) (t : tx h0 x ro cls) : tx h x ro cls := tx_fr (fun i hi => by have := t.1.1; exact q.2.2.1 _ (by omega) (by omega) (by omega) (by omega) (by omega)) (by rw [q.2.1]; exact Nat.le_refl _) t
theorem qFr_m {h1 : ah_T} (q : mfr h h1) : qFr h h1 := ⟨q.1, q.2.1, fun a _ _ n3 _ n5 => q.2.2.1 a n3 n5, fun j _ _ => by rw [(q.2.2.1 27 (by decide) (by decide)).1], wB_of (q.2.2.1 27 (by decide) (by decide)).1⟩
theorem c_part {Q : Option Value → ah_T → Prop} (hs : Sh h) (t : tx h x ro cls) {k j : Nat} {x1 x2 : Int32} (e1 : x1 = nI k) (e2 : x2 = nI j) (hk : k < cls.length) (hj : j < 6) (hq : Q (some (.int (ah_i h (x + 2) (6 * k + j)))) h) : Mt mX9_part [.ref x, .int x1, .int x2] h Q := by
  subst e1 e2
  obtain ⟨⟨t1, t2, t3, t4, t5, t6⟩, t7, t8, t9, t10, t11, t12, t13, _⟩ := t
  refine T_X9_part hs x (x + 2) _ _ t3 t5 t8 ?_
  have e : nI k * 6 + nI j = nI (6 * k + j) := by rw [n_6, nI_mul, nI_add]; exact congrArg nI (by omega)
  rw [e, t12, nI_ofNat, nI_clamp (by omega)]
  (first | refine ⟨fun _ => ?_, fun n_ => absurd (nI_pos (show 6 * k + j < 2 ^ 31 by omega)) n_⟩ | refine ⟨fun n_ => absurd (nI_pos (show 6 * k + j < 2 ^ 31 by omega)) n_, fun _ => ?_⟩ | refine ⟨fun y_ => absurd y_ (nI_pos (show 6 * k + j < 2 ^ 31 by omega)), fun _ => ?_⟩ | refine ⟨fun _ => ?_, fun y_ => absurd y_ (nI_pos (show 6 * k + j < 2 ^ 31 by omega))⟩)
  (first | refine ⟨fun _ => ?_, fun n_ => absurd (show ¬ nI (6 * cls.length) ≤ nI (6 * k + j) from nI_ge (by omega) (by omega)) n_⟩ | refine ⟨fun n_ => absurd (show ¬ nI (6 * cls.length) ≤ nI (6 * k + j) from nI_ge (by omega) (by omega)) n_, fun _ => ?_⟩ | refine ⟨fun y_ => absurd y_ (show ¬ nI (6 * cls.length) ≤ nI (6 * k + j) from nI_ge (by omega) (by omega)), fun _ => ?_⟩ | refine ⟨fun _ => ?_, fun y_ => absurd y_ (show ¬ nI (6 * cls.length) ≤ nI (6 * k + j) from nI_ge (by omega) (by omega))⟩)
  exact ⟨(vp_nI (by omega)).mpr (by omega), hq⟩
/-- the machine over a text's code -/
theorem c_runS {Q : Option Value → ah_T → Prop} (hs : Sh h) {a q : Nat} {c : Nat → Nat} {w : Nat → Int} {m : Mg} {v : Int32} (ha : 123 ≤ a) (ka : ah_k h a = 14) (na : ah_n h a = q) (hq5 : q ≤ 500) (hc : ∀ k, k < q → ah_i h a k = nI (c k) ∧ c k < 65536) (hw : ∀ k, k < 13 → (ah_i h 27 k).toInt = w k ∧ -1000000000 ≤ w k ∧ w k ≤ 1000000000) (s : cS1 v c q (some m))
    (hq : ∀ y h', mfr h h' → (∀ z, m w = some z → y.toInt = z ∧ ah_i h' 26 1 = 0) → (m w = none → y = 0 ∧ ah_i h' 26 1 = 1) → Q (some (.int y)) h') : Mt mX2_run [.ref 26, .ref a, .int v] h Q := by
  obtain ⟨p, p', nd, e, hp, hnd, im, he⟩ := s
  have := im.1
  exact c_run hs ⟨hq5, na, ka, hc, hw⟩ ⟨by omega, by omega⟩ (by omega) e (m w) (impS_run im (fun k hk => (hw k hk).2) hp (by omega) (by omega) (by rw [he])) hq
theorem c_runT {Q : Option Value → ah_T → Prop} (hs : Sh h) {a q : Nat} {c : Nat → Nat} {w : Nat → Int} {m : Tg} {v : Int32} (ha : 123 ≤ a) (ka : ah_k h a = 14) (na : ah_n h a = q) (hq5 : q ≤ 500) (hc : ∀ k, k < q → ah_i h a k = nI (c k) ∧ c k < 65536) (hw : ∀ k, k < 13 → (ah_i h 27 k).toInt = w k ∧ -1000000000 ≤ w k ∧ w k ≤ 1000000000) (s : cT1 v c q (some m))
    (hq : ∀ y h', mfr h h' → (y = 0 ↔ ¬ m w = some true) → Q (some (.int y)) h') : Mt mX2_run [.ref 26, .ref a, .int v] h Q := by
  obtain ⟨p, p', nd, e, hp, hnd, im, he⟩ := s
  have := im.1
  refine c_run hs ⟨hq5, na, ka, hc, hw⟩ ⟨by omega, by omega⟩ (by omega) e _ (impT_run im (fun k hk => (hw k hk).2) hp (by omega) (by omega) (by rw [he])) (fun y h' mf k1 k2 => hq y h' mf ?_)
  cases z : m w with
  | none =>
    rw [z] at k2
    exact ⟨fun _ q => (nomatch q), fun _ => (k2 rfl).1⟩
  | some b =>
    rw [z] at k1
    have e1 := (k1 _ rfl).1
    cases b
    · have : y = 0 := Int32.toInt_inj.mp e1
      exact ⟨fun _ q => absurd (Option.some.inj q) (by decide), fun _ => this⟩
    · refine ⟨fun q => ?_, fun q => absurd rfl q⟩
      rw [q] at e1
      exact absurd e1 (by decide)
end CR
