/-! ===== ways ===== -/
def hasW (A : Nat → Nat) (a b : Nat) : Prop := ∃ w, w < A 245 ∧ A (3 * w) = min a b ∧ A (3 * w + 1) = max a b
theorem f_lesser (a b : Nat) (ha : a < 2 ^ 31) (hb : b < 2 ^ 31) : f_X12_lesser (nI a) (nI b) = nI (min a b) := by
  unfold f_X12_lesser
  simp only [nI_leI hb ha]
  by_cases q : b ≤ a
  · rw [if_pos q, Nat.min_eq_right q]
  · rw [if_neg q, Nat.min_eq_left (by omega)]
theorem f_higher (a b : Nat) (ha : a < 2 ^ 31) (hb : b < 2 ^ 31) : nI a + nI b - f_X12_lesser (nI a) (nI b) = nI (max a b) := by
  rw [f_lesser a b ha hb, nI_add, nI_sub (by omega)]
  congr 1
  omega
/-- the model's row of ways, as numbers -/
def mWy (A : Nat → Nat) (h : ah_T) : Prop := ah_i h 84 245 = nI (A 245) ∧ A 245 ≤ 20 ∧ ∀ w, w < A 245 → ah_i h 84 (3 * w) = nI (A (3 * w)) ∧ ah_i h 84 (3 * w + 1) = nI (A (3 * w + 1)) ∧ A (3 * w) < A (3 * w + 1) ∧ A (3 * w + 1) < 12
theorem n84 {h : ah_T} (hs : Sh h) : ah_n h 84 = 5860 := sh_n hs 84 5860 (by decide) (by decide) rfl
theorem m_joins {A : Nat → Nat} {h : ah_T} (m : mWy A h) {w a b : Nat} (hw : w < A 245) (ha : a < 12) (hb : b < 12) : f_X12_joins h (nI w) (nI a) (nI b) = if A (3 * w) = min a b ∧ A (3 * w + 1) = max a b then 1 else 0 := by
  obtain ⟨m1, m2, m3⟩ := m
  obtain ⟨q1, q2, q3, q4⟩ := m3 w hw
  unfold f_X12_joins
  have e1 : (0 + 3 * nI w).toNatClampNeg = 3 * w := by clear m3; grind
  have e2 : (0 + 3 * nI w + 1).toNatClampNeg = 3 * w + 1 := by clear m3; grind
  rw [e1, e2, f_higher a b (by omega) (by omega), f_lesser a b (by omega) (by omega), q1, q2]
  simp only [nI_eq (show A (3 * w) < 2 ^ 31 by omega) (show min a b < 2 ^ 31 by omega), nI_eq (show A (3 * w + 1) < 2 ^ 31 by omega) (show max a b < 2 ^ 31 by omega)]
  by_cases k1 : A (3 * w) = min a b <;> by_cases k2 : A (3 * w + 1) = max a b <;> simp [k1, k2]
theorem m_hasWay {Q : Option Value → ah_T → Prop} {A : Nat → Nat} {h : ah_T} (hs : Sh h) (m : mWy A h) (a b : Nat) (ha : a < 12) (hb : b < 12) (h1 : a ≠ b → hasW A a b → Q (some (.int 1)) h) (h0 : ¬ (a ≠ b ∧ hasW A a b) → Q (some (.int 0)) h) : Mt mX12_hasWay [.ref 82, .int (nI a), .int (nI b)] h Q := by
  refine T_X12_hasWay hs _ _ ?_
  have key : ∀ (k j : Nat), j + k = A 245 → (∀ w, w < j → ¬ (a ≠ b ∧ A (3 * w) = min a b ∧ A (3 * w + 1) = max a b)) → Wp mX12_hasWay Q 0 0 2 [some (.ref 82), some (.int (nI a)), some (.int (nI b)), some (.int (nI j))] [] h := by
    intro k
    have m' := m
    obtain ⟨m1, m2, m3⟩ := m
    induction k with
    | zero =>
      intro j hj hno
      refine T_X12_hasWay_2 hs _ _ _ ⟨fun _ => h0 ?_, fun q => ?_⟩
      · rintro ⟨q0, w, q1, q2, q3⟩
        exact hno w (by omega) ⟨q0, q2, q3⟩
      · exfalso
        apply q
        rw [show (245 : Int32).toNatClampNeg = 245 from rfl, m1]
        exact nI_le (by omega) (by omega)
    | succ k ih =>
      intro j hj hno
      have hlt : j < A 245 := by omega
      have e1 : (0 + 3 * nI j) = nI (3 * j) := by rw [n_3, nI_mul]; grind
      refine T_X12_hasWay_2 hs _ _ _ ⟨fun q => ?_, fun _ => ⟨fun q => ?_, fun q => ⟨?_, fun _ => ?_, fun q2 => ?_, fun q2 => ?_⟩⟩⟩
      · exfalso
        rw [show (245 : Int32).toNatClampNeg = 245 from rfl, m1, nI_leI (by omega) (by omega)] at q
        omega
      · rw [nI_1]
        rw [nI_eq (by omega) (by omega)] at q
        exact ih (j + 1) (by omega) (fun w _ z => z.1 q)
      · rw [e1, n84 hs]; exact (vp_nI (by omega)).mpr (by omega)
      · rw [e1, nI_1, n84 hs]; exact (vp_nI (by omega)).mpr (by omega)
      · rw [nI_1]
        refine ih (j + 1) (by omega) (fun w hw z => ?_)
        rw [m_joins m' hlt ha hb] at q2
        rcases Nat.lt_or_ge w j with hw2 | hw2
        · exact hno w hw2 z
        · have : w = j := by omega
          subst this
          rw [if_pos z.2] at q2
          exact absurd q2 (by decide)
      · rw [m_joins m' hlt ha hb] at q2
        have q3 : A (3 * j) = min a b ∧ A (3 * j + 1) = max a b := by
          by_cases z : A (3 * j) = min a b ∧ A (3 * j + 1) = max a b
          · exact z
          · rw [if_neg z] at q2; exact absurd rfl q2
        rw [nI_eq (by omega) (by omega)] at q
        exact h1 q ⟨j, hlt, q3⟩
  exact key (A 245) 0 (by omega) (fun w hw => by omega)
/-- the class's own row of ways -/
def cWy (A : Nat → Nat) (h : ah_T) : Prop := ah_i h 2 1 = nI 3 ∧ ah_i h 2 3 = nI (A 245) ∧ A 245 ≤ 20 ∧ ∀ w, w < A 245 → ah_i h 3 (3 * w) = nI (A (3 * w)) ∧ ah_i h 3 (3 * w + 1) = nI (A (3 * w + 1)) ∧ A (3 * w) < A (3 * w + 1) ∧ A (3 * w + 1) < 12
theorem mm_lo (a b : Nat) (ha : a < 2 ^ 31) (hb : b < 2 ^ 31) : (if nI b < nI a then nI b else nI a) = nI (min a b) := by
  simp only [nI_ltI hb ha]
  by_cases q : b < a
  · rw [if_pos q, Nat.min_eq_right (by omega)]
  · rw [if_neg q, Nat.min_eq_left (by omega)]
theorem mm_hi (a b : Nat) (ha : a < 2 ^ 31) (hb : b < 2 ^ 31) : (if nI a < nI b then nI b else nI a) = nI (max a b) := by
  simp only [nI_ltI ha hb]
  by_cases q : a < b
  · rw [if_pos q, Nat.max_eq_right (by omega)]
  · rw [if_neg q, Nat.max_eq_left (by omega)]
theorem c_getW {Q : Option Value → ah_T → Prop} {h : ah_T} (hs : Sh h) {t n r k : Nat} {x1 x2 : Int32} (ht : t = 2 ∨ t = 4 ∨ t = 6 ∨ t = 10 ∨ t = 12) (e1 : x1 = nI r) (e2 : x2 = nI k) (hw : ah_i h t 1 = nI 3) (hn : ah_i h t 3 = nI n) (hl : 3 * n ≤ sh_N (t + 1)) (hr : r < n) (hk : k < 3)
    (hq : Q (some (.int (ah_i h (t + 1) (3 * r + k)))) h) : Mt mX7_get [.ref t, .int x1, .int x2] h Q := by
  have hk1 : ah_k h t = 7 := by rcases ht with rfl | rfl | rfl | rfl | rfl <;> exact sh_k hs _ 7 (by decide) rfl
  have hk2 : ah_k h (t + 1) = 14 := by rcases ht with rfl | rfl | rfl | rfl | rfl <;> exact sh_k hs _ 14 (by decide) rfl
  have hr1 : ah_r h t 2 = some (t + 1) := by
    rcases ht with rfl | rfl | rfl | rfl | rfl
    · exact hs.2.1 (2, 2, 3) (by decide +kernel)
    · exact hs.2.1 (4, 2, 5) (by decide +kernel)
    · exact hs.2.1 (6, 2, 7) (by decide +kernel)
    · exact hs.2.1 (10, 2, 11) (by decide +kernel)
    · exact hs.2.1 (12, 2, 13) (by decide +kernel)
  have hn2 : ah_n h (t + 1) = sh_N (t + 1) := by rcases ht with rfl | rfl | rfl | rfl | rfl <;> exact sh_n hs _ _ (by decide) (by decide) rfl
  have hb : sh_N (t + 1) ≤ 72 := by rcases ht with rfl | rfl | rfl | rfl | rfl <;> decide
  refine c_getN hs t (t + 1) _ _ r k e1 e2 hk1 hk2 hr1 hw hn (by rw [hn2]; omega) (.inl rfl) (by omega) hr hk ?_
  rw [show r * 3 + k = 3 * r + k by omega]
  exact hq
theorem c_isWay {Q : Option Value → ah_T → Prop} {A : Nat → Nat} {h : ah_T} (hs : Sh h) (m : cWy A h) (a b : Nat) (ha : a < 12) (hb : b < 12) (h1 : hasW A a b → Q (some (.int 1)) h) (h0 : ¬ hasW A a b → Q (some (.int 0)) h) : Mt mX10_isWay [.ref 1, .int (nI a), .int (nI b)] h Q := by
  refine T_X10_isWay hs _ _ ?_
  rw [mm_lo a b (by omega) (by omega), mm_hi a b (by omega) (by omega)]
  have key : ∀ (k j : Nat), j + k = A 245 → (∀ w, w < j → ¬ (A (3 * w) = min a b ∧ A (3 * w + 1) = max a b)) → Wp mX10_isWay Q 0 0 16 [some (.ref 1), none, none, some (.int (nI (min a b))), some (.int (nI (max a b))), some (.int (nI j))] [] h := by
    intro k
    obtain ⟨m0, m1, m2, m3⟩ := m
    induction k with
    | zero =>
      intro j hj hno
      refine T_X10_isWay_16 hs _ _ _ ⟨fun _ => h0 ?_, fun q => ?_⟩
      · rintro ⟨w, q1, q2⟩
        exact hno w (by omega) q2
      · exfalso
        apply q
        rw [m1]
        exact nI_le (by omega) (by omega)
    | succ k ih =>
      intro j hj hno
      have hlt : j < A 245 := by omega
      obtain ⟨r1, r2, r3, r4⟩ := m3 j hlt
      have nx : ¬ (A (3 * j) = min a b ∧ A (3 * j + 1) = max a b) → Wp mX10_isWay Q 0 0 16 [some (.ref 1), none, none, some (.int (nI (min a b))), some (.int (nI (max a b))), some (.int (nI j + 1))] [] h := by
        intro z
        rw [nI_1]
        refine ih (j + 1) (by omega) (fun w hw => ?_)
        rcases Nat.lt_or_ge w j with hw2 | hw2
        · exact hno w hw2
        · have : w = j := by omega
          subst this
          exact z
      refine T_X10_isWay_16 hs _ _ _ ⟨fun q => ?_, fun _ => ?_⟩
      · exfalso
        rw [m1, nI_leI (by omega) (by omega)] at q
        omega
      refine c_getW hs (.inl rfl) rfl (k := 0) rfl m0 m1 (show 3 * A 245 ≤ 60 by omega) hlt (by omega) ?_
      refine ⟨_, rfl, hs, fun q => ?_, fun q => ?_⟩
      · refine nx (fun z => q ?_)
        rw [show 3 * j + 0 = 3 * j from rfl, show 2 + 1 = 3 from rfl, r1, z.1]
      · refine c_getW hs (.inl rfl) rfl (k := 1) rfl m0 m1 (show 3 * A 245 ≤ 60 by omega) hlt (by omega) ?_
        rw [show 3 * j + 0 = 3 * j from rfl, show 2 + 1 = 3 from rfl, r1, nI_eq (by omega) (by omega)] at q
        refine ⟨_, rfl, hs, fun q2 => ?_, fun q2 => ?_⟩
        · refine nx (fun z => q2 ?_)
          rw [show 2 + 1 = 3 from rfl, r2, z.2]
        · rw [show 2 + 1 = 3 from rfl, r2, nI_eq (by omega) (by omega)] at q2
          exact h1 ⟨j, hlt, q, q2⟩
  exact key (A 245) 0 (by omega) (fun w hw => by omega)
