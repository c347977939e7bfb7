/-! ===== code of tests ===== -/
section IM
variable {c : Nat → Nat} {q q1 q2 nd nd1 nd2 : Nat} {f m : Mg} {y t : Tg}
def cmN (s : Nat) : Nat := if s = 160 then 8 else if s = 162 then 9 else 10
theorem b01_bd (x : Bool) : bnd (b01 x) = some (b01 x) := by cases x <;> rfl
theorem impT_cmp {s : Nat} (hs : s = 160 ∨ s = 162 ∨ s = 161) (i1 : impS c q q1 f nd1) (i2 : impS c q1 q2 m nd2) (hc : c q2 = cmN s) : impT c q (q2 + 1) (cmpT s f m) (nd1 + nd2) := by
  obtain ⟨a1, a2, a3⟩ := i1
  obtain ⟨b1, b2, b3⟩ := i2
  refine ⟨by omega, by omega, fun g hg L w k st hw hL hst => ?_⟩
  have e : g q2 = cmN s := by rw [hg q2 (by omega) (by omega), hc]
  have A := a3 g (fun k h1 h2 => hg k h1 (by omega)) L w (k + 1 + (q2 - q1)) st hw (by omega) (by omega)
  have B := fun x => b3 g (fun k h1 h2 => hg k (by omega) (by omega)) L w (k + 1) (x :: st) hw (by omega) (by show st.length + 1 + nd2 ≤ 120; omega)
  rw [show k + (q2 + 1 - q) = k + 1 + (q2 - q1) + (q1 - q) by omega]
  have step : ∀ (a b : Int), mgo g L w (k + 1) q2 (b :: a :: st) = mgo g L w k (q2 + 1) (b01 (if s = 160 then decide (a < b) else if s = 162 then decide (b < a) else decide (a = b)) :: st) := by
    intro a b
    conv => lhs; unfold mgo
    have n0 : cmN s < 32 ∧ cmN s ≠ 0 ∧ cmN s ≠ 1 ∧ cmN s ≠ 2 ∧ cmN s ≠ 11 ∧ cmN s ≠ 12 ∧ cmN s ≠ 13 ∧ cmN s ≠ 6 ∧ cmN s ≠ 7 := by
      unfold cmN
      rcases hs with rfl | rfl | rfl <;> decide
    rw [e, Nat.mod_eq_of_lt n0.1, if_neg (by omega), if_neg (by omega)]
    dsimp only
    rw [if_neg n0.2.1, if_neg n0.2.2.2.2.1, if_neg n0.2.2.2.2.2.1, if_neg n0.2.2.2.2.2.2.1, if_neg (by omega)]
    have v : valM (cmN s) a b = b01 (if s = 160 then decide (a < b) else if s = 162 then decide (b < a) else decide (a = b)) := by
      unfold valM cmN b01
      rcases hs with rfl | rfl | rfl <;> simp
    rw [v, b01_bd]
  unfold cmpT
  cases ef : f w with
  | none =>
    refine ⟨fun x hx => (by cases hx), fun _ => ?_⟩
    exact A.2 ef
  | some a =>
    rw [A.1 a ef]
    cases em : m w with
    | none =>
      refine ⟨fun x hx => (by cases hx), fun _ => ?_⟩
      exact (B a).2 em
    | some b =>
      rw [(B a).1 b em, step a b]
      refine ⟨fun x hx => ⟨k, Nat.le_refl _, ?_⟩, fun hx => (by cases hx)⟩
      rw [← Option.some.inj hx]
theorem impT_not (i1 : impT c q q1 y nd) (hc : c q1 = 11) : impT c q (q1 + 1) (notT true y) nd := by
  obtain ⟨a1, a2, a3⟩ := i1
  refine ⟨by omega, a2, fun g hg L w k st hw hL hst => ?_⟩
  have e : g q1 = 11 := by rw [hg q1 (by omega) (by omega), hc]
  have A := a3 g (fun k h1 h2 => hg k h1 (by omega)) L w (k + 1) st hw (by omega) hst
  rw [show k + (q1 + 1 - q) = k + 1 + (q1 - q) by omega]
  unfold notT
  cases ef : y w with
  | none =>
    refine ⟨fun x hx => (by cases hx), fun _ => ?_⟩
    exact A.2 ef
  | some a =>
    obtain ⟨k1, hk1, e1⟩ := A.1 a ef
    refine ⟨fun x hx => ⟨k1 - 1, by omega, ?_⟩, fun hx => (by cases hx)⟩
    rw [← Option.some.inj hx, e1, show k1 = k1 - 1 + 1 by omega]
    conv => lhs; unfold mgo
    rw [e, if_neg (by omega), if_neg (by decide)]
    dsimp only
    rw [if_neg (by decide), if_pos (by decide), if_pos (by cases a <;> simp [b01]), show k1 - 1 + 1 - 1 = k1 - 1 by omega]
    cases a <;> rfl
theorem impT_and (i1 : impT c q q1 y nd1) (i2 : impT c (q1 + 1) q2 t nd2) (hc : c q1 = 13 + 32 * q2) : impT c q q2 (andT y t) (nd1 + nd2) := by
  obtain ⟨a1, a2, a3⟩ := i1
  obtain ⟨b1, b2, b3⟩ := i2
  refine ⟨by omega, by omega, fun g hg L w k st hw hL hst => ?_⟩
  have e : g q1 = 13 + 32 * q2 := by rw [hg q1 (by omega) (by omega), hc]
  have A := a3 g (fun k h1 h2 => hg k h1 (by omega)) L w (k + (q2 - (q1 + 1)) + 1) st hw (by omega) (by omega)
  rw [show k + (q2 - q) = k + (q2 - (q1 + 1)) + 1 + (q1 - q) by omega]
  unfold andT
  cases ef : y w with
  | none =>
    refine ⟨fun x hx => (by cases hx), fun _ => ?_⟩
    exact A.2 ef
  | some a =>
    obtain ⟨k1, hk1, e1⟩ := A.1 a ef
    rw [e1]
    obtain ⟨k2, ek2⟩ : ∃ k2, k1 = k2 + (q2 - (q1 + 1)) + 1 := ⟨k1 - (q2 - (q1 + 1)) - 1, by omega⟩
    have hk2 : k ≤ k2 := by omega
    rw [ek2]
    have st1 : mgo g L w (k2 + (q2 - (q1 + 1)) + 1) q1 (b01 a :: st) = if a = true then mgo g L w (k2 + (q2 - (q1 + 1))) (q1 + 1) st else mgo g L w (k2 + (q2 - (q1 + 1))) q2 (b01 a :: st) := by
      conv => lhs; unfold mgo
      rw [e, if_neg (by omega), if_neg (by omega)]
      dsimp only
      rw [if_neg (by omega), if_neg (by omega), if_neg (by omega), if_pos (by omega), show (13 + 32 * q2) / 32 = q2 by omega]
      cases a <;> rfl
    rw [st1]
    cases a
    · refine ⟨fun x hx => ⟨k2 + (q2 - (q1 + 1)), by omega, ?_⟩, fun hx => (by cases hx)⟩
      rw [← Option.some.inj hx]
      rfl
    · have B := b3 g (fun k h1 h2 => hg k (by omega) (by omega)) L w k2 st hw (by omega) (by omega)
      refine ⟨fun x hx => ?_, fun hx => ?_⟩
      · obtain ⟨k3, hk3, e3⟩ := B.1 x hx
        exact ⟨k3, by omega, e3⟩
      · exact B.2 hx
theorem impT_or (i1 : impT c q q1 y nd1) (i2 : impT c (q1 + 1) q2 t nd2) (hc : c q1 = 12 + 32 * q2) : impT c q q2 (orT y t) (nd1 + nd2) := by
  obtain ⟨a1, a2, a3⟩ := i1
  obtain ⟨b1, b2, b3⟩ := i2
  refine ⟨by omega, by omega, fun g hg L w k st hw hL hst => ?_⟩
  have e : g q1 = 12 + 32 * q2 := by rw [hg q1 (by omega) (by omega), hc]
  have A := a3 g (fun k h1 h2 => hg k h1 (by omega)) L w (k + (q2 - (q1 + 1)) + 1) st hw (by omega) (by omega)
  rw [show k + (q2 - q) = k + (q2 - (q1 + 1)) + 1 + (q1 - q) by omega]
  unfold orT
  cases ef : y w with
  | none =>
    refine ⟨fun x hx => (by cases hx), fun _ => ?_⟩
    exact A.2 ef
  | some a =>
    obtain ⟨k1, hk1, e1⟩ := A.1 a ef
    rw [e1]
    obtain ⟨k2, ek2⟩ : ∃ k2, k1 = k2 + (q2 - (q1 + 1)) + 1 := ⟨k1 - (q2 - (q1 + 1)) - 1, by omega⟩
    have hk2 : k ≤ k2 := by omega
    rw [ek2]
    have st1 : mgo g L w (k2 + (q2 - (q1 + 1)) + 1) q1 (b01 a :: st) = if a = true then mgo g L w (k2 + (q2 - (q1 + 1))) q2 (b01 a :: st) else mgo g L w (k2 + (q2 - (q1 + 1))) (q1 + 1) st := by
      conv => lhs; unfold mgo
      rw [e, if_neg (by omega), if_neg (by omega)]
      dsimp only
      rw [if_neg (by omega), if_neg (by omega), if_pos (by omega), show (12 + 32 * q2) / 32 = q2 by omega]
      cases a <;> rfl
    rw [st1]
    cases a
    · have B := b3 g (fun k h1 h2 => hg k (by omega) (by omega)) L w k2 st hw (by omega) (by omega)
      refine ⟨fun x hx => ?_, fun hx => ?_⟩
      · obtain ⟨k3, hk3, e3⟩ := B.1 x hx
        exact ⟨k3, by omega, e3⟩
      · exact B.2 hx
    · refine ⟨fun x hx => ⟨k2 + (q2 - (q1 + 1)), by omega, ?_⟩, fun hx => (by cases hx)⟩
      rw [← Option.some.inj hx]
      rfl
/-- a sum with its end: what the machine answers -/
theorem impS_run {L p p' : Nat} {w : Nat → Int} (i : impS c p p' f nd) (hw : wOk w) (hL : p' < L) (hp : p' - p < 1000) (hn : nd ≤ 120) (he : c p' % 32 = 0) : mgo c L w 1000 p [] = some (f w) := by
  have A := i.2.2 c (fun _ _ _ => rfl) L w (1000 - (p' - p)) [] hw (by omega) (by show 0 + nd ≤ 120; omega)
  rw [show 1000 - (p' - p) + (p' - p) = 1000 by omega] at A
  cases ef : f w with
  | none => exact A.2 ef
  | some x =>
    rw [A.1 x ef, show 1000 - (p' - p) = 1000 - (p' - p) - 1 + 1 by omega]
    conv => lhs; unfold mgo
    rw [if_neg (by omega), if_neg (by omega)]
    dsimp only
    rw [if_pos he]
    rfl
theorem impT_run {L p p' : Nat} {w : Nat → Int} (i : impT c p p' y nd) (hw : wOk w) (hL : p' < L) (hp : p' - p < 1000) (hn : nd ≤ 120) (he : c p' % 32 = 0) : mgo c L w 1000 p [] = some ((y w).map b01) := by
  have A := i.2.2 c (fun _ _ _ => rfl) L w (1000 - (p' - p)) [] hw (by omega) (by show 0 + nd ≤ 120; omega)
  rw [show 1000 - (p' - p) + (p' - p) = 1000 by omega] at A
  cases ef : y w with
  | none => exact A.2 ef
  | some x =>
    obtain ⟨k1, hk1, e1⟩ := A.1 x ef
    rw [e1, show k1 = k1 - 1 + 1 by omega]
    conv => lhs; unfold mgo
    rw [if_neg (by omega), if_neg (by omega)]
    dsimp only
    rw [if_pos he]
    rfl
end IM
