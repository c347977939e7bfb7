/-! ===== the class's reader: tests ===== -/
section CR
variable {cs vs : Nat → Nat} {isV : Nat → Bool} {n : Nat} {h0 h : ah_T}
/-- a test that is read so far, from a beginning on -/
def cAt (K : Nat) (h0 h : ah_T) (i q lv : Nat) (c : Nat → Nat) (wd : Int32) (q0 lv0 : Nat) (c0 : Nat → Nat) (wd0 : Int32) (y : Tg) : Prop := cS h0 h i q lv c wd ∧ lv0 + 2 ≤ lv ∧ 2 * q + 2 ≤ 2 * q0 + K * (lv - lv0) ∧ (∀ k, k < q0 → c k = c0 k) ∧ impT c q0 q y (lv - lv0) ∧ (∀ j, j < 32 → bt wd0 j = true → bt wd j = true) ∧ depT y wd
def cmb (o : Nat) (y m : Tg) : Tg := if o = 13 then andT y m else orT y m
theorem dep_cmb {o : Nat} {y m : Tg} {wd : Int32} (h1 : depT y wd) (h2 : depT m wd) : depT (cmb o y m) wd := fun w w' k => by
  unfold cmb
  split
  · unfold andT; rw [h1 w w' k, h2 w w' k]
  · unfold orT; rw [h1 w w' k, h2 w w' k]
/-- a jump that waits, if any: what stands when it is aimed -/
def cPd (o K : Nat) (h0 h : ah_T) (x : Int32) (i q lv : Nat) (c : Nat → Nat) (wd : Int32) (q0 lv0 : Nat) (c0 : Nat → Nat) (wd0 : Int32) (a : Tg) : Prop :=
  (x = -1 ∧ cAt K h0 h i q lv c wd q0 lv0 c0 wd0 a) ∨
  ∃ j lj y m, x = nI j ∧ a = cmb o y m ∧ c j = o ∧ cS h0 h i q lv c wd ∧ lv0 + 2 ≤ lv ∧ lj ≤ lv ∧ lv0 ≤ lj ∧ 2 * q + 2 ≤ 2 * q0 + K * (lv - lv0) ∧ (∀ k, k < q0 → c k = c0 k) ∧ impT c q0 j y (lj - lv0) ∧ impT c (j + 1) q m (lv - lj) ∧ (∀ k, k < 32 → bt wd0 k = true → bt wd k = true) ∧ depT y wd ∧ depT m wd
theorem c_fix {Q : Option Value → ah_T → Prop} {o K : Nat} {x : Int32} {i q lv : Nat} {c : Nat → Nat} {wd : Int32} {q0 lv0 : Nat} {c0 : Nat → Nat} {wd0 : Int32} {a : Tg} (ho : o = 12 ∨ o = 13) (hq : q < 500) (p : cPd o K h0 h x i q lv c wd q0 lv0 c0 wd0 a) (k : ∀ h' c', cAt K h0 h' i q lv c' wd q0 lv0 c0 wd0 a → Q none h') : Mt mX5_aim [.ref 20, .int x] h Q := by
  rcases p with ⟨rfl, p⟩ | ⟨j, lj, y, m, rfl, rfl, cj, s, l1, l2, l3, b, pre, i1, i2, bb, d1, d2⟩
  · exact c_aim0 p.1.1.1 (k h c p)
  · have a1 := i1.1
    have a2 := i2.1
    refine c_aim (o := o) s (by omega) hq rfl (by omega) cj (fun h' s' => k h' _ ⟨s', l1, b, fun z hz => by rw [up_n (by omega)]; exact pre z hz, ?_, bb, dep_cmb d1 d2⟩)
    have j1 : impT (up c j (o + 32 * q)) q0 j y (lj - lv0) := impT_ext (fun z h1 h2 => up_n (by omega)) i1
    have j2 : impT (up c j (o + 32 * q)) (j + 1) q m (lv - lj) := impT_ext (fun z h1 h2 => up_n (by omega)) i2
    unfold cmb
    rcases ho with rfl | rfl
    · rw [if_neg (by decide)]
      have := impT_or j1 j2 (up_s _ _ _)
      rwa [show lj - lv0 + (lv - lj) = lv - lv0 by omega] at this
    · rw [if_pos rfl]
      have := impT_and j1 j2 (up_s _ _ _)
      rwa [show lj - lv0 + (lv - lj) = lv - lv0 by omega] at this
end CR
