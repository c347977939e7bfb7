/-! ===== contracts of rows and tables ===== -/
def ab_fl (h : ah_T) (a i m : Nat) (v : Int32) : ah_T := ah_sa h a (fun j => if i ≤ j ∧ j < m then v else ah_i h a j)
theorem ab_fl_e {h : ah_T} {a i : Nat} {v : Int32} : ab_fl h a i i v = h := by
  refine ah_ext (fun _ => rfl) (fun _ => rfl) (fun b j => ?_) (fun _ _ => rfl) (fun _ _ => rfl) rfl
  unfold ab_fl
  rw [ah_i_sa]
  grind
theorem ab_fl_s {h : ah_T} {a i m : Nat} {v : Int32} (hi : i < m) : ab_fl (ah_si h a i v) a (i + 1) m v = ab_fl h a i m v := by
  refine ah_ext (fun _ => rfl) (fun _ => rfl) (fun b j => ?_) (fun _ _ => rfl) (fun _ _ => rfl) rfl
  unfold ab_fl
  rw [ah_i_sa, ah_i_sa]
  grind [ah_i_si]
theorem c_fill_1 {Q : Option Value → ah_T → Prop} (a0 m : Nat) (v : Int32) (hm : m < 2 ^ 31) : ∀ (k i : Nat) (h : ah_T), Sh h → ah_k h a0 = 14 → m ≤ ah_n h a0 → i + k = m → Q none (ab_fl h a0 i m v) → Wp mJ7_fill_fda19 Q 0 0 10 [some (.ref a0), none, some (.int (nI m)), some (.int v), some (.int (nI i))] [] h := by
  intro k
  induction k with
  | zero =>
    intro i h hs hk hn hi hq
    refine T_J7_fill_fda19_10 hs a0 _ _ _ hk ⟨fun _ => ?_, fun q => by grind⟩
    have : i = m := by omega
    subst this
    rw [ab_fl_e] at hq
    exact hq
  | succ k ih =>
    intro i h hs hk hn hi hq
    refine T_J7_fill_fda19_10 hs a0 _ _ _ hk ⟨fun _ => by grind, fun q => ⟨by grind, ?_⟩⟩
    rintro h3 rfl
    rw [nI_clamp (by omega), nI_1]
    refine ih (i + 1) _ (sh_si hs) hk hn (by omega) ?_
    rw [ab_fl_s (by omega)]
    exact hq
theorem c_fill {Q : Option Value → ah_T → Prop} {h : ah_T} (hs : Sh h) (a0 i m : Nat) (v x1 x2 : Int32) (h1 : x1 = nI i) (h2 : x2 = nI m) (hk : ah_k h a0 = 14) (hm : m ≤ ah_n h a0) (hi : i ≤ m) (hn : ah_n h a0 < 2 ^ 31) (hq : Q none (ab_fl h a0 i m v)) : Mt mJ7_fill_fda19 [.ref a0, .int x1, .int x2, .int v] h Q := by
  subst h1 h2
  refine T_J7_fill_fda19 hs a0 _ _ _ hk (T_J7_rangeCheck_23922 hs _ _ _ ?_)
  have := nI_ofNat (ah_n h a0)
  refine ⟨fun _ => ⟨fun _ => ⟨fun _ => ?_, fun q => ?_⟩, fun q => ?_⟩, fun q => ?_⟩
  · exact ⟨rfl, hs, hk, c_fill_1 a0 m v (by omega) (m - i) i h hs hk hm (by omega) hq⟩
  all_goals grind
theorem c_fillA_1 {Q : Option Value → ah_T → Prop} (a0 m : Nat) (v : Int32) (hm : m < 2 ^ 31) : ∀ (k i : Nat) (h : ah_T), Sh h → ah_k h a0 = 14 → m ≤ ah_n h a0 → i + k = m → Q none (ab_fl h a0 i m v) → Wp mJ7_fill_53178 Q 0 0 5 [some (.ref a0), some (.int v), some (.int (nI i)), some (.int (nI m))] [] h := by
  intro k
  induction k with
  | zero =>
    intro i h hs hk hn hi hq
    refine T_J7_fill_53178_5 hs a0 _ _ _ hk ⟨fun _ => ?_, fun q => by grind⟩
    have : i = m := by omega
    subst this
    rw [ab_fl_e] at hq
    exact hq
  | succ k ih =>
    intro i h hs hk hn hi hq
    refine T_J7_fill_53178_5 hs a0 _ _ _ hk ⟨fun _ => by grind, fun q => ⟨by grind, ?_⟩⟩
    rintro h3 rfl
    rw [nI_clamp (by omega), nI_1]
    refine ih (i + 1) _ (sh_si hs) hk hn (by omega) ?_
    rw [ab_fl_s (by omega)]
    exact hq
theorem c_fillA {Q : Option Value → ah_T → Prop} {h : ah_T} (hs : Sh h) (a0 : Nat) (v : Int32) (hk : ah_k h a0 = 14) (hn : ah_n h a0 < 2 ^ 31) (hq : Q none (ab_fl h a0 0 (ah_n h a0) v)) : Mt mJ7_fill_53178 [.ref a0, .int v] h Q :=
  T_J7_fill_53178 hs a0 _ hk (c_fillA_1 a0 (ah_n h a0) v hn (ah_n h a0) 0 h hs hk (Nat.le_refl _) (by omega) hq)
theorem ah_i_fl (h : ah_T) (a i m : Nat) (v : Int32) (b j : Nat) : ah_i (ab_fl h a i m v) b j = if b = a ∧ i ≤ j ∧ j < m then v else ah_i h b j := by
  unfold ab_fl
  rw [ah_i_sa]
  grind
theorem c_isFull {Q : Option Value → ah_T → Prop} {h : ah_T} (hs : Sh h) (t cc : Nat) (hk_t : ah_k h t = 7) (hk_cc : ah_k h cc = 14) (hr_t : ah_r h t 2 = some cc) (hq : Q (some (.int (if ah_i h t 3 < ah_i h t 0 then 0 else 1))) h) : Mt mX7_isFull [.ref t] h Q := by
  refine T_X7_isFull hs t cc hk_t hk_cc hr_t ?_
  grind
theorem c_has {Q : Option Value → ah_T → Prop} {h : ah_T} (hs : Sh h) (t cc : Nat) (x1 : Int32) (hk_t : ah_k h t = 7) (hk_cc : ah_k h cc = 14) (hr_t : ah_r h t 2 = some cc) (hq : Q (some (.int (if 0 ≤ x1 ∧ x1 < ah_i h t 3 then 1 else 0))) h) : Mt mX7_has [.ref t, .int x1] h Q := by
  refine T_X7_has hs t cc x1 hk_t hk_cc hr_t ?_
  grind
theorem c_get {Q : Option Value → ah_T → Prop} {h : ah_T} (hs : Sh h) (t cc : Nat) (x1 x2 : Int32) (hk_t : ah_k h t = 7) (hk_cc : ah_k h cc = 14) (hr_t : ah_r h t 2 = some cc) {n w : Nat} (hw : ah_i h t 1 = nI w) (hn : ah_i h t 3 = nI n) (h3 : n * w ≤ ah_n h cc) (hw3 : w = 3 ∨ w = 19 ∨ w = 1) (hsm : n ≤ 1000)
  (hq : Q (some (.int (if 0 ≤ x1 ∧ x1 < nI n ∧ 0 ≤ x2 ∧ x2 < nI w then ah_i h cc (x1.toNatClampNeg * w + x2.toNatClampNeg) else -1))) h) : Mt mX7_get [.ref t, .int x1, .int x2] h Q := by
  refine T_X7_get hs t cc x1 x2 hk_t hk_cc hr_t ?_
  rw [hw, hn]
  have e1 : nI 3 = 3 := rfl
  have e2 : nI 19 = 19 := rfl
  have e3 : nI 1 = 1 := rfl
  rcases hw3 with rfl | rfl | rfl <;> simp only [e1, e2, e3] at * <;> grind
/-- a place of a table, row and column told as numbers -/
theorem c_getN {Q : Option Value → ah_T → Prop} {h : ah_T} (hs : Sh h) (t cc : Nat) (x1 x2 : Int32) (r k : Nat) (e1 : x1 = nI r) (e2 : x2 = nI k) (hk_t : ah_k h t = 7) (hk_cc : ah_k h cc = 14) (hr_t : ah_r h t 2 = some cc) {n w : Nat} (hw : ah_i h t 1 = nI w) (hn : ah_i h t 3 = nI n) (h3 : n * w ≤ ah_n h cc) (hw3 : w = 3 ∨ w = 19 ∨ w = 1) (hsm : n ≤ 1000) (hr : r < n) (hk : k < w)
  (hq : Q (some (.int (ah_i h cc (r * w + k)))) h) : Mt mX7_get [.ref t, .int x1, .int x2] h Q := by
  subst e1 e2
  refine c_get hs t cc _ _ hk_t hk_cc hr_t hw hn h3 hw3 hsm ?_
  rw [if_pos, nI_clamp (by omega), nI_clamp (by omega)]
  · exact hq
  · grind
theorem c_swap {Q : Option Value → ah_T → Prop} {h : ah_T} (hs : Sh h) (t cc : Nat) (x1 x2 x3 : Int32) (r k : Nat) (e1 : x1 = nI r) (e2 : x2 = nI k) (hk_t : ah_k h t = 7) (hk_cc : ah_k h cc = 14) (hr_t : ah_r h t 2 = some cc) {n w : Nat} (hw : ah_i h t 1 = nI w) (hn : ah_i h t 3 = nI n) (h3 : n * w ≤ ah_n h cc) (hw3 : w = 3 ∨ w = 19 ∨ w = 1) (hsm : n ≤ 1000) (hr : r < n) (hk : k < w)
  (hq : Q (some (.int (ah_i h cc (r * w + k)))) (ah_si h cc (r * w + k) x3)) : Mt mX7_swap [.ref t, .int x1, .int x2, .int x3] h Q := by
  subst e1 e2
  refine T_X7_swap hs t cc _ _ _ hk_t hk_cc hr_t ?_
  rw [hw, hn]
  have e1 : nI 3 = 3 := rfl
  have e2 : nI 19 = 19 := rfl
  have e3 : nI 1 = 1 := rfl
  have e : (nI r * nI w + nI k).toNatClampNeg = r * w + k := by
    rcases hw3 with rfl | rfl | rfl <;> simp only [e1, e2, e3] at * <;> grind
  have e' : vp_in (nI r * nI w + nI k) (ah_n h cc) := by
    rcases hw3 with rfl | rfl | rfl <;> simp only [e1, e2, e3] at * <;> grind
  have q1 : ¬ nI r < 0 := by grind
  have q2 : ¬ nI n ≤ nI r := by grind
  have q3 : ¬ nI k < 0 := by grind
  have q4 : nI k < nI w := by grind
  simp only [q1, q2, q3, q4, e, e', false_imp_iff, true_imp_iff, not_false_eq_true, true_and]
  refine ⟨?_, fun q => absurd trivial q⟩
  rintro h9 rfl
  exact hq
theorem c_add {Q : Option Value → ah_T → Prop} {h : ah_T} (hs : Sh h) (t cc : Nat) (x1 x2 x3 : Int32) (hk_t : ah_k h t = 7) (hk_cc : ah_k h cc = 14) (hr_t : ah_r h t 2 = some cc) {n w r : Nat} (hr : ah_i h t 0 = nI r) (hw : ah_i h t 1 = nI w) (hn : ah_i h t 3 = nI n) (h3 : r * w = ah_n h cc) (hw3 : w = 3 ∨ w = 19) (hsm : r ≤ 100) (hnr : n < r) (htc : t ≠ cc)
  (hq : Q (some (.int (nI n))) (ah_si (ah_si (ah_si (ah_si (ab_fl h cc (n * w) (n * w + w) 0) cc (n * w) x1) cc (n * w + 1) x2) cc (n * w + 2) x3) t 3 (nI (n + 1)))) : Mt mX7_add [.ref t, .int x1, .int x2, .int x3] h Q := by
  refine T_X7_add hs t cc _ _ _ hk_t hk_cc hr_t ?_
  rw [hw, hn, hr]
  have hlen : n * w + w ≤ ah_n h cc := by rcases hw3 with rfl | rfl <;> omega
  have hlen2 : ah_n h cc ≤ 1900 := by rcases hw3 with rfl | rfl <;> omega
  have a1 : ¬ nI r ≤ nI n := by grind
  have a2 : ¬ nI w < 3 := by rcases hw3 with rfl | rfl <;> decide
  have a3 : nI n * nI w + nI w ≤ Int32.ofNat (ah_n h cc) := by
    rw [nI_ofNat, nI_mul, nI_add]; grind
  refine ⟨fun q => absurd q a1, fun _ => ⟨fun q => absurd q a2, fun _ => ⟨fun _ => ?_, fun q => absurd a3 q⟩⟩⟩
  refine c_fill hs cc (n * w) (n * w + w) 0 _ _ (nI_mul _ _) (by rw [nI_mul, nI_add]) hk_cc hlen (by omega) (by omega) ?_
  have e1 : nI n * nI w = nI (n * w) := nI_mul _ _
  have e2 : nI (n * w) + 1 = nI (n * w + 1) := nI_1 _
  have e3 : nI (n * w) + 2 = nI (n * w + 2) := nI_add _ 2
  have w3 : 3 ≤ w := by omega
  refine ⟨rfl, sh_sa hs, hk_t, hr_t, hk_cc, ?_⟩
  rw [e1, e2, e3, nI_clamp (by omega), nI_clamp (by omega), nI_clamp (by omega)]
  refine ⟨(vp_nI (by omega)).mpr (show n * w < ah_n h cc by omega), ?_⟩
  rintro h11 rfl
  refine ⟨(vp_nI (by omega)).mpr (show n * w + 1 < ah_n h cc by omega), ?_⟩
  rintro h18 rfl
  refine ⟨(vp_nI (by omega)).mpr (show n * w + 2 < ah_n h cc by omega), ?_⟩
  rintro h25 rfl
  rintro h31 rfl
  have e4 : ah_i (ah_si (ah_si (ah_si (ab_fl h cc (n * w) (n * w + w) 0) cc (n * w) x1) cc (n * w + 1) x2) cc (n * w + 2) x3) t 3 + 1 = nI (n + 1) := by
    simp only [ah_i_si, ah_i_fl]
    simp [htc]
    rw [hn, nI_1]
  rw [e4]
  have e5 : ah_i (ah_si (ah_si (ah_si (ah_si (ab_fl h cc (n * w) (n * w + w) 0) cc (n * w) x1) cc (n * w + 1) x2) cc (n * w + 2) x3) t 3 (nI (n + 1))) t 3 - 1 = nI n := by
    rw [ah_i_ss, nI_pred]
  rw [e5]
  exact hq
