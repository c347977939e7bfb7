/-! ===== the class's reader: tests with so many brackets left ===== -/
section CR
variable {cs vs : Nat → Nat} {isV : Nat → Bool} {n : Nat} {h0 : ah_T}
theorem cr_Test (t : Ck cs vs isV n h0) : ∀ (e d : Nat), e ≤ 8 → 16 + 2 * e ≤ d → cTd (6 + e + 1) 2 cs vs isV n h0 (mX5_readTest d) (nI (8 - e)) (pTest cs vs isV e) := by
  intro e
  induction e with
  | zero =>
    intro d he hd
    have hr : ∀ f, (none : Option (Nat → Nat → pR Tg)) = some f → lvO n f := fun f q => by cases q
    exact cr_test (rec := none) t (by omega) (by omega) hr (cr_plain t (by omega) (by omega) (by omega) (cr_Sum t 0 _ (by omega) (by omega)) (fun _ => rfl) (fun f q => by cases q))
  | succ e ih =>
    intro d he hd
    have ok := pTest_ok (vs := vs) (isV := isV) t.2.1 t.2.2.1 e
    have hr : ∀ f, (some (pTest cs vs isV e)) = some f → lvO n f := fun f q => by cases q; exact ok
    have h1 := ih (d - 1 - 1) (by omega) (by omega)
    exact cr_test (rec := some (pTest cs vs isV e)) t (by omega) he hr (cr_plain t (by omega) he (by omega) (cr_Sum t (e + 1) _ he (by omega)) (fun q => by cases q) (fun f q => by
      cases q
      refine ⟨by omega, ok, ?_⟩
      rw [show 8 - (e + 1) + 1 = 8 - e by omega]
      exact h1))
end CR
