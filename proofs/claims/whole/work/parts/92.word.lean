/-! ===== the class's word: the text of words is read sign by sign ===== -/
theorem c_wordIn {Q : Option Value → ah_T → Prop} {h : ah_T} (hs : Sh h) {D : Nat → Nat} {a k e : Nat} (ka : ah_k h a = 14) (na : e ≤ ah_n h a) (hk : k < e) (he : e ≤ 400) (hD : ∀ j, k ≤ j → j < e → D j < 256 ∧ ah_i h a j = nI (D j)) (hq : Q (some (.int (nI (wdL.getD (wix mW (tb D k e) 1) 98)))) h) : Mt mX5_wordIn [.ref a, .int (nI k), .int (nI e)] h Q := by
  sorry
