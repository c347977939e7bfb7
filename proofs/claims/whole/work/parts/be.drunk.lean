/-! ===== who has drunk: draws and ways ===== -/
section DK
variable {A : Nat → Nat} {h g h1 : ah_T} {g0 n c : Nat}
theorem lN_rem {a b : Nat} (ha : a < 2 ^ 63) (hb : b < 2 ^ 63) : Int64.ofNat a - Int64.ofNat a / Int64.ofNat b * Int64.ofNat b = Int64.ofNat (a % b) := by
  have e := Nat.div_add_mod a b
  have hq : a / b < 2 ^ 63 := Nat.lt_of_le_of_lt (Nat.div_le_self a b) ha
  have hd : Int64.ofNat a / Int64.ofNat b = Int64.ofNat (a / b) := by
    apply Int64.toInt_inj.mp
    rw [Int64.toInt_div, Int64.toInt_ofNat_of_lt ha, Int64.toInt_ofNat_of_lt hb, Int64.toInt_ofNat_of_lt hq, ← Int.ofNat_tdiv]
    generalize a / b = c at hq ⊢
    apply Int.bmod_eq_of_le <;> omega
  have e2 : a / b * b + a % b = a := by rw [Nat.mul_comm]; exact e
  have e3 : Int64.ofNat a = Int64.ofNat (a / b * b) + Int64.ofNat (a % b) := by rw [← Int64.ofNat_add, e2]
  rw [hd, ← Int64.ofNat_mul]
  generalize Int64.ofNat (a / b * b) = x at e3 ⊢
  rw [e3, Int64.add_comm, Int64.add_sub_cancel]
def dw (s : Nat) : Nat := (1103 * s + 12345) % 1000003
theorem dw_lt (s : Nat) : dw s < 1000003 := Nat.mod_lt _ (by omega)
theorem lN_dw {s : Nat} (hs : s ≤ 1000003) : (Int64.ofNat s * (1103 : Int64) + (12345 : Int64)) - (Int64.ofNat s * (1103 : Int64) + (12345 : Int64)) / (1000003 : Int64) * (1000003 : Int64) = Int64.ofNat (dw s) := by
  have e : Int64.ofNat s * (1103 : Int64) + (12345 : Int64) = Int64.ofNat (1103 * s + 12345) := by
    rw [show (1103 : Int64) = Int64.ofNat 1103 from rfl, show (12345 : Int64) = Int64.ofNat 12345 from rfl, ← Int64.ofNat_mul, ← Int64.ofNat_add, Nat.mul_comm]
  rw [e, show (1000003 : Int64) = Int64.ofNat 1000003 from rfl, lN_rem (by omega) (by omega)]
  rfl
theorem lN_to {s : Nat} (hs : s < 2 ^ 31) : (Int64.ofNat s).toInt32 = nI s := by
  apply Int32.toInt_inj.mp
  rw [Int64.toInt_toInt32, Int64.toInt_ofNat_of_lt (by omega), nI_toInt hs]
  apply Int.bmod_eq_of_le <;> omega
/-- how many ways lead from a corner -/
def dgr (A : Nat → Nat) (c : Nat) : Nat := cb (fun v => decide (A (3 * v) = c ∨ A (3 * v + 1) = c)) (A 245)
theorem bc_12a : ∀ a, a < 64 → ∀ b, b < 64 → f_J6_bitCount_0f7a4 (nI (64 * a + b)) = nI (cb (bt (nI (64 * a + b))) 20) := by decide +kernel
theorem bc_12 (j : Nat) (hj : j < 4096) : f_J6_bitCount_0f7a4 (nI j) = nI (cb (bt (nI j)) 20) := by
  have := bc_12a (j / 64) (by omega) (j % 64) (by omega)
  rw [show 64 * (j / 64) + j % 64 = j by omega] at this
  exact this
theorem cb_add {f f' : Nat → Bool} {x : Nat} : ∀ {K : Nat}, x < K → f x = false → (∀ i, i < K → f' i = (f i || decide (i = x))) → cb f' K = cb f K + 1
  | 0, h, _, _ => absurd h (by omega)
  | K + 1, h, e, eq => by
    show cb f' K + (if f' K = true then 1 else 0) = cb f K + (if f K = true then 1 else 0) + 1
    by_cases z : x = K
    · subst z
      rw [eq x (by omega), e, if_pos (by rw [decide_eq_true rfl]; rfl), if_neg (by decide), cb_ext (f := f') (g := f) (fun i hi => by rw [eq i (by omega), decide_eq_false (by omega), Bool.or_false])]
    · rw [cb_add (f := f) (f' := f') (show x < K by omega) e (fun i hi => eq i (by omega)), eq K (by omega), decide_eq_false (by omega), Bool.or_false]
      omega
/-- ways are as many as those beside -/
theorem nb_dgr {r : Int32} (w : wfW A) (hr : ∀ i, i < 32 → (bt r i = true ↔ Ew A noS c i)) : f_J6_bitCount_0f7a4 r = nI (dgr A c) := by
  obtain ⟨w1, w2, w3⟩ := w
  have small : ∀ i, Ew A noS c i → i < 12 := by
    rintro i ⟨v, hv, _, y⟩
    have := w2 v hv
    omega
  obtain ⟨j, hj, ej⟩ := small_b (x := r) (w := 12) (fun i hi y => small i ((hr i hi).mp y))
  have bc := bc_12 j (by omega)
  rw [← ej] at bc
  rw [bc]
  have key : ∀ V, V ≤ A 245 → ∃ f : Nat → Bool, (∀ i, i < 20 → (f i = true ↔ EB A noS V c i)) ∧ cb f 20 = cb (fun v => decide (A (3 * v) = c ∨ A (3 * v + 1) = c)) V := by
    intro V
    induction V with
    | zero =>
      intro _
      refine ⟨fun _ => false, fun i _ => ⟨fun y => absurd (show false = true from y) (by decide), ?_⟩, (show cb (fun _ => false) 20 = 0 by decide)⟩
      rintro ⟨v, hv, _⟩
      omega
    | succ V ih =>
      intro hV
      obtain ⟨f, f1, f2⟩ := ih (by omega)
      have s : cb (fun v => decide (A (3 * v) = c ∨ A (3 * v + 1) = c)) (V + 1) = cb (fun v => decide (A (3 * v) = c ∨ A (3 * v + 1) = c)) V + (if decide (A (3 * V) = c ∨ A (3 * V + 1) = c) = true then 1 else 0) := rfl
      have wv := w2 V (by omega)
      by_cases z : A (3 * V) = c ∨ A (3 * V + 1) = c
      · rw [if_pos (decide_eq_true z)] at s
        obtain ⟨o, eo⟩ : ∃ o, o = (if A (3 * V) = c then A (3 * V + 1) else A (3 * V)) := ⟨_, rfl⟩
        have o12 : o < 12 := by rw [eo]; split <;> omega
        have oo : (A (3 * V) = c ∧ A (3 * V + 1) = o) ∨ (A (3 * V) = o ∧ A (3 * V + 1) = c) := by
          rw [eo]
          by_cases y : A (3 * V) = c
          · rw [if_pos y]; exact .inl ⟨y, rfl⟩
          · rw [if_neg y]; exact .inr ⟨rfl, z.resolve_left y⟩
        have fo : f o = false := by
          cases e : f o
          · rfl
          · obtain ⟨v, hv, _, y⟩ := (f1 o (by omega)).mp e
            have wv2 := w2 v (by omega)
            exact absurd ⟨by omega, by omega⟩ (w3 V v (by omega) hv)
        refine ⟨fun i => f i || decide (i = o), fun i hi => ?_, ?_⟩
        · show (f i || decide (i = o)) = true ↔ _
          rw [Bool.or_eq_true, decide_eq_true_eq, f1 i hi]
          constructor
          · rintro (⟨v, hv, y1, y2⟩ | y)
            · exact ⟨v, by omega, y1, y2⟩
            · subst y; exact ⟨V, by omega, fun y => y, oo⟩
          · rintro ⟨v, hv, y1, y2⟩
            by_cases y : v = V
            · subst y
              refine .inr ?_
              clear ih s f2 eo fo
              omega
            · exact .inl ⟨v, by omega, y1, y2⟩
        · rw [s, ← f2]
          exact cb_add (x := o) (by omega) fo (fun i _ => rfl)
      · rw [if_neg (fun y => z (decide_eq_true_eq.mp y))] at s
        refine ⟨f, fun i hi => (f1 i hi).trans ?_, by rw [s, f2]; rfl⟩
        constructor
        · rintro ⟨v, hv, y⟩; exact ⟨v, by omega, y⟩
        · rintro ⟨v, hv, y1, y2⟩
          by_cases y : v = V
          · subst y
            clear ih s f2
            omega
          · exact ⟨v, by omega, y1, y2⟩
  obtain ⟨f, f1, f2⟩ := key (A 245) (Nat.le_refl _)
  unfold dgr
  rw [← f2]
  congr 1
  refine cb_ext (fun i hi => ?_)
  cases y : f i
  · cases z : bt r i
    · rfl
    · rw [(f1 i hi).mpr ((hr i (by omega)).mp z)] at y; exact absurd y (by decide)
  · exact (hr i (by omega)).mpr ((f1 i hi).mp y)
theorem dgr_le (w : wfW A) : dgr A c ≤ 20 := by have := cb_le (fun v => decide (A (3 * v) = c ∨ A (3 * v + 1) = c)) (A 245); unfold dgr; have := w.1; omega
/-- where the so manieth way leads -/
def lvW (A : Nat → Nat) (c : Nat) : Nat → Nat → Nat → Nat
  | 0, _, _ => c
  | q + 1, w, left => if left = 0 then c else if A (3 * w) = c ∨ A (3 * w + 1) = c then (if left - 1 = 0 then (if A (3 * w) = c then A (3 * w + 1) else A (3 * w)) else lvW A c q (w + 1) (left - 1)) else lvW A c q (w + 1) left
theorem lvW_lt (wf : ∀ v, v < A 245 → A (3 * v) < A (3 * v + 1) ∧ A (3 * v + 1) < 12) (hc : c < 12) : ∀ (q w left : Nat), w + q = A 245 → lvW A c q w left < 12
  | 0, _, _, _ => hc
  | q + 1, w, left, e => by
    have := wf w (by omega)
    show (if left = 0 then c else if A (3 * w) = c ∨ A (3 * w + 1) = c then (if left - 1 = 0 then (if A (3 * w) = c then A (3 * w + 1) else A (3 * w)) else lvW A c q (w + 1) (left - 1)) else lvW A c q (w + 1) left) < 12
    split
    · exact hc
    · split
      · split
        · split <;> omega
        · exact lvW_lt wf hc q (w + 1) _ (by omega)
      · exact lvW_lt wf hc q (w + 1) _ (by omega)
theorem c_leave {Q : Option Value → ah_T → Prop} (hs : Sh h) (w : cWy A h) {left : Nat} {x1 x2 : Int32} (e1 : x1 = nI c) (e2 : x2 = nI left) (hc : c < 12) (hl : left ≤ 100) (hq : Q (some (.int (nI (lvW A c (A 245) 0 left)))) h) : Mt mX6_leave [.ref 29, .int x1, .int x2] h Q := by
  subst e1 e2
  have lp : ∀ (q v l : Nat), v + q = A 245 → l ≤ 100 → lvW A c q v l = lvW A c (A 245) 0 left → Wp mX6_leave Q 0 0 5 [some (.ref 29), some (.int (nI c)), none, some (.int (nI l)), some (.int (nI v)), none, none] [] h := by
    intro q
    have w' := w
    obtain ⟨a1, a2, a3, a4⟩ := w'
    induction q with
    | zero =>
      intro v l hv hl e
      have e9 : v = A 245 := by omega
      refine T_X6_leave_5 hs _ _ _ ?_
      rw [a2, e9]
      (first | refine ⟨fun _ => ?_, fun n_ => absurd (show nI (A 245) ≤ nI (A 245) from nI_le (Nat.le_refl _) (by omega)) n_⟩ | refine ⟨fun n_ => absurd (show nI (A 245) ≤ nI (A 245) from nI_le (Nat.le_refl _) (by omega)) n_, fun _ => ?_⟩ | refine ⟨fun y_ => absurd y_ (show nI (A 245) ≤ nI (A 245) from nI_le (Nat.le_refl _) (by omega)), fun _ => ?_⟩ | refine ⟨fun _ => ?_, fun y_ => absurd y_ (show nI (A 245) ≤ nI (A 245) from nI_le (Nat.le_refl _) (by omega))⟩)
      rw [← e] at hq
      exact hq
    | succ q ih =>
      intro v l hv hl e
      have hv2 : v < A 245 := by omega
      obtain ⟨b1, b2, b3, b4⟩ := a4 v hv2
      have e' : (if l = 0 then c else if A (3 * v) = c ∨ A (3 * v + 1) = c then (if l - 1 = 0 then (if A (3 * v) = c then A (3 * v + 1) else A (3 * v)) else lvW A c q (v + 1) (l - 1)) else lvW A c q (v + 1) l) = lvW A c (A 245) 0 left := e
      refine T_X6_leave_5 hs _ _ _ ?_
      rw [a2]
      (first | refine ⟨fun _ => ?_, fun n_ => absurd (show ¬ nI (A 245) ≤ nI v from nI_ge (by omega) (by omega)) n_⟩ | refine ⟨fun n_ => absurd (show ¬ nI (A 245) ≤ nI v from nI_ge (by omega) (by omega)) n_, fun _ => ?_⟩ | refine ⟨fun y_ => absurd y_ (show ¬ nI (A 245) ≤ nI v from nI_ge (by omega) (by omega)), fun _ => ?_⟩ | refine ⟨fun _ => ?_, fun y_ => absurd y_ (show ¬ nI (A 245) ≤ nI v from nI_ge (by omega) (by omega))⟩)
      by_cases z : l = 0
      · (first | refine ⟨fun _ => ?_, fun n_ => absurd (show nI l ≤ 0 by rw [z]; decide) n_⟩ | refine ⟨fun n_ => absurd (show nI l ≤ 0 by rw [z]; decide) n_, fun _ => ?_⟩ | refine ⟨fun y_ => absurd y_ (show nI l ≤ 0 by rw [z]; decide), fun _ => ?_⟩ | refine ⟨fun _ => ?_, fun y_ => absurd y_ (show nI l ≤ 0 by rw [z]; decide)⟩)
        rw [if_pos z] at e'
        rw [← e'] at hq
        exact hq
      (first | refine ⟨fun _ => ?_, fun n_ => absurd (show ¬ nI l ≤ 0 from nI_ge (a := 0) (by omega) (by omega)) n_⟩ | refine ⟨fun n_ => absurd (show ¬ nI l ≤ 0 from nI_ge (a := 0) (by omega) (by omega)) n_, fun _ => ?_⟩ | refine ⟨fun y_ => absurd y_ (show ¬ nI l ≤ 0 from nI_ge (a := 0) (by omega) (by omega)), fun _ => ?_⟩ | refine ⟨fun _ => ?_, fun y_ => absurd y_ (show ¬ nI l ≤ 0 from nI_ge (a := 0) (by omega) (by omega))⟩)
      rw [if_neg z] at e'
      have l1 : nI l + (-1) = nI (l - 1) := by rw [nO_m1]; obtain ⟨l', rfl⟩ : ∃ l', l = l' + 1 := ⟨l - 1, by omega⟩; rw [nO_s]; rfl
      refine c_getW hs (t := 2) (n := A 245) (r := v) (k := 0) (by omega) rfl rfl a1 a2 (by show 3 * A 245 ≤ 60; omega) hv2 (by omega) ⟨_, rfl, hs, ?_⟩
      refine c_getW hs (t := 2) (n := A 245) (r := v) (k := 1) (by omega) rfl rfl a1 a2 (by show 3 * A 245 ≤ 60; omega) hv2 (by omega) ⟨_, rfl, hs, ?_⟩
      have b1' : ah_i h (2 + 1) (3 * v + 0) = nI (A (3 * v)) := b1
      have b2' : ah_i h (2 + 1) (3 * v + 1) = nI (A (3 * v + 1)) := b2
      rw [b1', b2', l1, nI_1, nI_eq (show A (3 * v) < 2 ^ 31 by omega) (show c < 2 ^ 31 by omega), nI_eq (show A (3 * v + 1) < 2 ^ 31 by omega) (show c < 2 ^ 31 by omega)]
      have z0 : nI (l - 1) = 0 ↔ l - 1 = 0 := by rw [show (0 : Int32) = nI 0 from rfl, nI_eq (by omega) (by omega)]
      rw [z0]
      refine ⟨fun y => ⟨fun y2 => ?_, fun y2 => ⟨fun y3 => absurd y y3, fun _ => ?_⟩⟩, fun y => ⟨fun y1 => ?_, fun y1 => ⟨fun y2 => ?_, fun y2 => ⟨fun _ => ?_, fun y3 => absurd y3 y⟩⟩⟩⟩
      · rw [if_pos (.inl y), if_neg y2] at e'
        exact ih (v + 1) (l - 1) (by omega) (by omega) e'
      · rw [if_pos (.inl y), if_pos y2, if_pos y] at e'
        rw [← e'] at hq
        exact hq
      · rw [if_neg (fun w => w.elim y y1)] at e'
        exact ih (v + 1) l (by omega) hl e'
      · rw [if_pos (.inr y1), if_neg y2] at e'
        exact ih (v + 1) (l - 1) (by omega) (by omega) e'
      · rw [if_pos (.inr y1), if_pos y2, if_neg y] at e'
        rw [← e'] at hq
        exact hq
  exact T_X6_leave hs _ _ (lp (A 245) 0 left (by omega) hl rfl)
end DK
