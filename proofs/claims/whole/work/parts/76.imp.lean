/-! ===== code that does what a meaning says ===== -/
/-- words that the machine may hold -/
def wOk (w : Nat → Int) : Prop := ∀ k, k < 13 → -1000000000 ≤ w k ∧ w k ≤ 1000000000
def impS (c : Nat → Nat) (q q' : Nat) (m : Mg) (nd : Nat) : Prop := q < q' ∧ 1 ≤ nd ∧ ∀ (g : Nat → Nat), (∀ k, q ≤ k → k < q' → g k = c k) → ∀ (L : Nat) (w : Nat → Int) (k : Nat) (st : List Int), wOk w → q' ≤ L → st.length + nd ≤ 120 →
  (∀ x, m w = some x → mgo g L w (k + (q' - q)) q st = mgo g L w k q' (x :: st)) ∧ (m w = none → mgo g L w (k + (q' - q)) q st = some none)
def b01 (b : Bool) : Int := if b then 1 else 0
def impT (c : Nat → Nat) (q q' : Nat) (t : Tg) (nd : Nat) : Prop := q < q' ∧ 1 ≤ nd ∧ ∀ (g : Nat → Nat), (∀ k, q ≤ k → k < q' → g k = c k) → ∀ (L : Nat) (w : Nat → Int) (k : Nat) (st : List Int), wOk w → q' ≤ L → st.length + nd ≤ 120 →
  (∀ x, t w = some x → ∃ k', k ≤ k' ∧ mgo g L w (k + (q' - q)) q st = mgo g L w k' q' (b01 x :: st)) ∧ (t w = none → mgo g L w (k + (q' - q)) q st = some none)
section IM
variable {c c' : Nat → Nat} {q q1 q2 nd nd1 nd2 : Nat} {f m : Mg} {y t : Tg}
theorem impS_ext (h : ∀ k, q ≤ k → k < q1 → c' k = c k) (i : impS c q q1 f nd) : impS c' q q1 f nd := ⟨i.1, i.2.1, fun g hg => i.2.2 g (fun k h1 h2 => by rw [hg k h1 h2, h k h1 h2])⟩
theorem impT_ext (h : ∀ k, q ≤ k → k < q1 → c' k = c k) (i : impT c q q1 y nd) : impT c' q q1 y nd := ⟨i.1, i.2.1, fun g hg => i.2.2 g (fun k h1 h2 => by rw [hg k h1 h2, h k h1 h2])⟩
theorem impS_num {v : Nat} (hc : c q = 1 + 32 * v) : impS c q (q + 1) (fun _ => some (v : Int)) 1 := by
  refine ⟨by omega, by omega, fun g hg L w k st hw hL hs => ⟨fun x hx => ?_, fun hx => by cases hx⟩⟩
  cases hx
  have e : g q = 1 + 32 * v := by rw [hg q (by omega) (by omega), hc]
  rw [show k + (q + 1 - q) = k + 1 by omega]
  conv => lhs; unfold mgo
  rw [e, if_neg (by omega), if_pos (by omega), if_neg (by omega), if_pos (by omega), show (1 + 32 * v) / 32 = v by omega]
theorem impS_word {v : Nat} (hv : v < 13) (hc : c q = 2 + 32 * v) : impS c q (q + 1) (fun w => some (w v)) 1 := by
  refine ⟨by omega, by omega, fun g hg L w k st hw hL hs => ⟨fun x hx => ?_, fun hx => by cases hx⟩⟩
  cases hx
  have e : g q = 2 + 32 * v := by rw [hg q (by omega) (by omega), hc]
  rw [show k + (q + 1 - q) = k + 1 by omega]
  conv => lhs; unfold mgo
  rw [e, if_neg (by omega), if_pos (by omega), if_neg (by omega), if_neg (by omega), show (2 + 32 * v) / 32 = v by omega]
/-- the machine's number of an operator -/
def opN (s : Nat) : Nat := if s = 143 then 3 else if s = 145 then 4 else if s = 142 then 5 else if s = 147 then 6 else 7
theorem impS_op {s : Nat} (hs : s = 143 ∨ s = 145 ∨ s = 142 ∨ s = 147 ∨ s = 137) (i1 : impS c q q1 f nd1) (i2 : impS c q1 q2 m nd2) (hc : c q2 = opN s) : impS c q (q2 + 1) (opM s f m) (nd1 + nd2) := by
  obtain ⟨a1, a2, a3⟩ := i1
  obtain ⟨b1, b2, b3⟩ := i2
  refine ⟨by omega, by omega, fun g hg L w k st hw hL hst => ?_⟩
  have e : g q2 = opN s := by rw [hg q2 (by omega) (by omega), hc]
  have A := a3 g (fun k h1 h2 => hg k h1 (by omega)) L w (k + 1 + (q2 - q1)) st hw (by omega) (by omega)
  have B := fun x => b3 g (fun k h1 h2 => hg k (by omega) (by omega)) L w (k + 1) (x :: st) hw (by omega) (by show st.length + 1 + nd2 ≤ 120; omega)
  rw [show k + (q2 + 1 - q) = k + 1 + (q2 - q1) + (q1 - q) by omega]
  have opv : opN s < 32 ∧ opN s / 32 = 0 := by
    unfold opN
    rcases hs with rfl | rfl | rfl | rfl | rfl <;> decide
  have step : ∀ (a b : Int), mgo g L w (k + 1) q2 (b :: a :: st) = (if b = 0 ∧ (opN s = 6 ∨ opN s = 7) then some none else match bnd (valM (opN s) a b) with
      | none => some none
      | some v => mgo g L w k (q2 + 1) (v :: st)) := by
    intro a b
    conv => lhs; unfold mgo
    have n0 : opN s ≠ 0 ∧ opN s ≠ 1 ∧ opN s ≠ 2 ∧ opN s ≠ 11 ∧ opN s ≠ 12 ∧ opN s ≠ 13 := by
      unfold opN
      rcases hs with rfl | rfl | rfl | rfl | rfl <;> decide
    rw [e, Nat.mod_eq_of_lt opv.1, if_neg (by omega), if_neg (by omega)]
    dsimp only
    rw [if_neg n0.1, if_neg n0.2.2.2.1, if_neg n0.2.2.2.2.1, if_neg n0.2.2.2.2.2]
    by_cases z : b = 0 ∧ (opN s = 6 ∨ opN s = 7)
    · rw [if_pos z, if_pos z]
    · rw [if_neg z, if_neg z]
      cases bnd (valM (opN s) a b) <;> rfl
  unfold opM
  cases ef : f w with
  | none =>
    refine ⟨fun x hx => (by cases hx), fun _ => ?_⟩
    exact A.2 ef
  | some a =>
    rw [A.1 a ef]
    cases em : m w with
    | none =>
      refine ⟨fun x hx => (by cases hx), fun _ => ?_⟩
      exact (B a).2 em
    | some b =>
      rw [(B a).1 b em, step a b]
      dsimp only
      have fin : ∀ o : Option Int, (if b = 0 ∧ (opN s = 6 ∨ opN s = 7) then some none else match bnd (valM (opN s) a b) with
          | none => some none
          | some v => mgo g L w k (q2 + 1) (v :: st)) = (match o with
          | none => some none
          | some v => mgo g L w k (q2 + 1) (v :: st)) → (∀ x, o = some x → (if b = 0 ∧ (opN s = 6 ∨ opN s = 7) then some none else match bnd (valM (opN s) a b) with
          | none => some none
          | some v => mgo g L w k (q2 + 1) (v :: st)) = mgo g L w k (q2 + 1) (x :: st)) ∧ (o = none → (if b = 0 ∧ (opN s = 6 ∨ opN s = 7) then some none else match bnd (valM (opN s) a b) with
          | none => some none
          | some v => mgo g L w k (q2 + 1) (v :: st)) = some none) := by
        intro o ho
        refine ⟨fun x hx => ?_, fun hx => ?_⟩
        · rw [ho, hx]
        · rw [ho, hx]
      apply fin
      rcases hs with rfl | rfl | rfl | rfl | rfl
      · rw [if_neg (show ¬ (b = 0 ∧ (opN 143 = 6 ∨ opN 143 = 7)) by simp [opN])]; rfl
      · rw [if_neg (show ¬ (b = 0 ∧ (opN 145 = 6 ∨ opN 145 = 7)) by simp [opN])]; rfl
      · rw [if_neg (show ¬ (b = 0 ∧ (opN 142 = 6 ∨ opN 142 = 7)) by simp [opN])]; rfl
      · by_cases z : b = 0
        · rw [if_pos (show b = 0 ∧ (opN 147 = 6 ∨ opN 147 = 7) from ⟨z, .inl rfl⟩)]
          simp [z]
        · rw [if_neg (fun u => z u.1)]
          simp only [show ¬ (147 : Nat) = 143 by decide, show ¬ (147 : Nat) = 145 by decide, show ¬ (147 : Nat) = 142 by decide, z, if_false, if_true]
          rfl
      · by_cases z : b = 0
        · rw [if_pos (show b = 0 ∧ (opN 137 = 6 ∨ opN 137 = 7) from ⟨z, .inr rfl⟩)]
          simp [z]
        · rw [if_neg (fun u => z u.1)]
          simp only [show ¬ (137 : Nat) = 143 by decide, show ¬ (137 : Nat) = 145 by decide, show ¬ (137 : Nat) = 142 by decide, show ¬ (137 : Nat) = 147 by decide, z, if_false]
          rfl
end IM
