/-! ===== feed on both sides; switches told one after the other ===== -/
section FE
variable {TX : ah_T → Nat → (Nat → Nat) → (Nat → Nat) → Nat → Prop} {CC : (Nat → Nat) → ah_T → Prop} {CM : Nat → (Nat → Nat) → ah_T → Prop} {n : Nat}
theorem fB_lt (X : Nat → Int32) (i : Nat) : fB X i < 256 := (bb_s _ _ (by omega)).1
theorem m_feed_k {Q : Option Value → ah_T → Prop} (X : Nat → Int32) (p : Nat) (hp : p ≤ 380) : ∀ (k i : Nat) (h : ah_T), i + k = 20 → Sh h → ah_i h 82 11 = nI p → (∀ q, q < 5 → ah_i h 89 q = X q) →
    (∀ h', Sh h' → ah_x h' = ah_x h → (∀ a, a ≠ 82 → a ≠ 88 → eqc h h' a) → (∀ j, j ≠ 11 → ah_i h' 82 j = ah_i h 82 j) → ah_i h' 82 11 = nI (p + 20) → (∀ j, ah_i h' 88 j = if p + i ≤ j ∧ j < p + 20 then sB (fB X (j - p)) else ah_i h 88 j) → Q (some (.int (nI (p + 20)))) h') →
    Wp mX12_feed Q 0 0 55 [some (.ref 82), none, none, none, none, none, some (.int (nI i))] [] h := by
  intro k
  induction k with
  | zero =>
    intro i h hi hs e1 e2 hq
    have hi2 : i = 20 := by omega
    subst hi2
    refine T_X12_feed_55 hs _ ?_
    (first | refine ⟨fun _ => ?_, fun n_ => absurd (show 20 ≤ nI 20 by decide) n_⟩ | refine ⟨fun n_ => absurd (show 20 ≤ nI 20 by decide) n_, fun _ => ?_⟩ | refine ⟨fun y_ => absurd y_ (show 20 ≤ nI 20 by decide), fun _ => ?_⟩ | refine ⟨fun _ => ?_, fun y_ => absurd y_ (show 20 ≤ nI 20 by decide)⟩)
    rintro h18 rfl
    rw [ah_i_ss, e1, n_20, nI_add]
    exact hq _ (sh_si hs) rfl (fun a h0 _ => eqc_si eqc_rfl h0) (fun j hj => ah_i_sn (by omega)) ah_i_ss (fun j => by rw [if_neg (by omega), ah_i_sn (by omega)])
  | succ k ih =>
    intro i h hi hs e1 e2 hq
    have d1 : nI i / 4 = nI (i / 4) := pk_div (a := i) (d := 4) (by omega) (by decide) (by decide)
    have d2 : nI i - nI i / 4 * 4 = nI (i % 4) := pk_rem (a := i) (d := 4) (by omega) (by decide) (by decide)
    have d4 : i % 4 < 4 := Nat.mod_lt _ (by decide)
    have d3 : 24 - 8 * nI (i % 4) = nI (24 - 8 * (i % 4)) := by grind
    refine T_X12_feed_55 hs _ ?_
    rw [d2, d1, d3, e1, nI_add, nI_clamp (by omega), nI_clamp (by omega), e2 (i / 4) (by omega), (bb_s (X (i / 4)) (24 - 8 * (i % 4)) (by omega)).2.2]
    (first | refine ⟨fun _ => ?_, fun n_ => absurd (show ¬ 20 ≤ nI i by grind) n_⟩ | refine ⟨fun n_ => absurd (show ¬ 20 ≤ nI i by grind) n_, fun _ => ?_⟩ | refine ⟨fun y_ => absurd y_ (show ¬ 20 ≤ nI i by grind), fun _ => ?_⟩ | refine ⟨fun _ => ?_, fun y_ => absurd y_ (show ¬ 20 ≤ nI i by grind)⟩)
    refine ⟨by rw [sh_n hs 89 5 (by decide) (by decide) rfl]; exact (vp_nI (by omega)).mpr (by omega), by rw [sh_n hs 88 400 (by decide) (by decide) rfl]; exact (vp_nI (by omega)).mpr (by omega), ?_⟩
    rintro h23 rfl
    rw [nI_1]
    refine ih (i + 1) _ (by omega) (sh_si hs) (by rw [ah_i_sn (by omega), e1]) (fun q hq => by rw [ah_i_sn (by omega), e2 q hq]) (fun h' w1 w2 w3 w4 w5 w6 => ?_)
    refine hq h' w1 w2 (fun a h0 h1 => eqc_trans (eqc_si eqc_rfl h1) (w3 a h0 h1)) (fun j hj => by rw [w4 j hj, ah_i_sn (by omega)]) w5 (fun j => ?_)
    rw [w6, ah_i_si]
    by_cases c : j = p + i
    · rw [if_neg (by omega), if_pos ⟨rfl, c⟩, if_pos (by omega), c, show p + i - p = i by omega]
      rfl
    · rw [if_neg (c := 88 = 88 ∧ j = p + i) (by omega)]
      by_cases c2 : p + (i + 1) ≤ j ∧ j < p + 20
      · rw [if_pos c2, if_pos (by omega)]
      · rw [if_neg c2, if_neg (by omega)]
theorem m_feed {Q : Option Value → ah_T → Prop} {h : ah_T} (hs : Sh h) (x1 x2 x3 x4 x5' : Int32) (p : Nat) (hp : p ≤ 400) (e : ah_i h 82 11 = nI p) (h0 : 380 < p → Q (some (.int (-1))) h)
    (hq : ∀ h', p ≤ 380 → Sh h' → ah_x h' = ah_x h → (∀ a, a ≠ 82 → a ≠ 88 → a ≠ 89 → eqc h h' a) → (∀ j, j ≠ 11 → ah_i h' 82 j = ah_i h 82 j) → ah_i h' 82 11 = nI (p + 20) → (∀ j, ah_i h' 88 j = if p ≤ j ∧ j < p + 20 then sB (fB (x5 x1 x2 x3 x4 x5') (j - p)) else ah_i h 88 j) → Q (some (.int (nI (p + 20)))) h') : Mt mX12_feed [.ref 82, .int x1, .int x2, .int x3, .int x4, .int x5'] h Q := by
  refine T_X12_feed hs x1 x2 x3 x4 x5' ?_
  rw [e]
  rcases Nat.lt_or_ge 380 p with c | c
  · (first | refine ⟨fun _ => ?_, fun n_ => absurd (show ¬ nI p + 20 ≤ 400 by grind) n_⟩ | refine ⟨fun n_ => absurd (show ¬ nI p + 20 ≤ 400 by grind) n_, fun _ => ?_⟩ | refine ⟨fun y_ => absurd y_ (show ¬ nI p + 20 ≤ 400 by grind), fun _ => ?_⟩ | refine ⟨fun _ => ?_, fun y_ => absurd y_ (show ¬ nI p + 20 ≤ 400 by grind)⟩)
    exact h0 c
  (first | refine ⟨fun _ => ?_, fun n_ => absurd (show nI p + 20 ≤ 400 by grind) n_⟩ | refine ⟨fun n_ => absurd (show nI p + 20 ≤ 400 by grind) n_, fun _ => ?_⟩ | refine ⟨fun y_ => absurd y_ (show nI p + 20 ≤ 400 by grind), fun _ => ?_⟩ | refine ⟨fun _ => ?_, fun y_ => absurd y_ (show nI p + 20 ≤ 400 by grind)⟩)
  rw [show Int32.toNatClampNeg 0 = 0 from rfl, show Int32.toNatClampNeg 1 = 1 from rfl, show Int32.toNatClampNeg 2 = 2 from rfl, show Int32.toNatClampNeg 3 = 3 from rfl, show Int32.toNatClampNeg 4 = 4 from rfl]
  rintro h1 rfl h2 rfl h3 rfl h4 rfl h5 rfl
  refine m_feed_k (x5 x1 x2 x3 x4 x5') p c 20 0 _ rfl (sh_si (sh_si (sh_si (sh_si (sh_si hs))))) (by rw [ah_i_sn (by omega), ah_i_sn (by omega), ah_i_sn (by omega), ah_i_sn (by omega), ah_i_sn (by omega), e]) (fun q hq => ?_) (fun h' w1 w2 w3 w4 w5 w6 => ?_)
  · unfold x5
    rw [ah_i_si, ah_i_si, ah_i_si, ah_i_si, ah_i_si]
    simp only [true_and]
    rcases (show q = 0 ∨ q = 1 ∨ q = 2 ∨ q = 3 ∨ q = 4 by omega) with rfl | rfl | rfl | rfl | rfl <;> rfl
  · refine hq h' c w1 (by rw [w2, ah_x_si, ah_x_si, ah_x_si, ah_x_si, ah_x_si]) (fun a n0 n1 n2 => eqc_trans (eqc_si (eqc_si (eqc_si (eqc_si (eqc_si eqc_rfl n2) n2) n2) n2) n2) (w3 a n0 n1)) (fun j hj => by rw [w4 j hj, ah_i_sn (by omega), ah_i_sn (by omega), ah_i_sn (by omega), ah_i_sn (by omega), ah_i_sn (by omega)]) w5 (fun j => ?_)
    rw [w6, Nat.add_zero, ah_i_sn (by omega), ah_i_sn (by omega), ah_i_sn (by omega), ah_i_sn (by omega), ah_i_sn (by omega)]
theorem rel_feed (hTX : TXp TX) (hCC : CCp CC) (hCM : CMp CM) (x1 x2 x3 x4 x5' : Int32) : lw_RC (Inv TX CC CM (n + 1)) (Inv TX CC CM n) mX11_feed mX12_feed [.int x1, .int x2, .int x3, .int x4, .int x5'] := by
  intro h hI
  have hI' := hI
  obtain ⟨hs, A, B0, B1, d, D, wf, tn, im, sc, tp, dr, cc, cm⟩ := hI'
  obtain ⟨t1, t2, t3, t4⟩ := tp
  refine c_feed hs x1 x2 x3 x4 x5' d t1 t2 (fun c => ⟨_, rfl, hs, ?_⟩) (fun h1 c u1 u2 u3 u4 u5 u6 => ⟨_, rfl, u1, ?_⟩)
  · exact m_feed hs x1 x2 x3 x4 x5' d t1 t3 (fun _ => ⟨_, rfl, rfl, inv_dn hCM hI⟩) (fun h' q => by omega)
  · refine m_feed u1 x1 x2 x3 x4 x5' d t1 (by rw [(u3 82 (by decide) (by decide)).1]; exact t3) (fun q => by omega) (fun h2 _ w1 w2 w3 w4 w5 w6 => ⟨_, rfl, rfl, ?_⟩)
    refine inv_tp (h2 := h2) (d' := d + 20) (D' := fun j => if d ≤ j ∧ j < d + 20 then fB (x5 x1 x2 x3 x4 x5') (j - d) else D j) hTX hCC hCM wf tn im sc dr cc cm (fun a n0 n1 n2 n3 n4 => eqc_trans (u3 a n0 n2) (w3 a n1 n3 n4)) (fun j hj => by rw [(w3 0 (by decide) (by decide) (by decide)).1]; exact u4 j hj) (fun j hj => by rw [w4 j hj, (u3 82 (by decide) (by decide)).1]) (by rw [w2, u2]) w1 ⟨by omega, by rw [(w3 0 (by decide) (by decide) (by decide)).1]; exact u5, w5, fun j hj => ?_⟩
    show (if d ≤ j ∧ j < d + 20 then fB (x5 x1 x2 x3 x4 x5') (j - d) else D j) < 256 ∧ ah_i h2 17 j = nI (if d ≤ j ∧ j < d + 20 then fB (x5 x1 x2 x3 x4 x5') (j - d) else D j) ∧ ah_i h2 88 j = sB (if d ≤ j ∧ j < d + 20 then fB (x5 x1 x2 x3 x4 x5') (j - d) else D j)
    rw [(w3 17 (by decide) (by decide) (by decide)).1, u6, w6, (u3 88 (by decide) (by decide)).1]
    by_cases c2 : d ≤ j ∧ j < d + 20
    · rw [if_pos c2, if_pos c2, if_pos c2]
      exact ⟨fB_lt _ _, rfl, rfl⟩
    · rw [if_neg c2, if_neg c2, if_neg c2]
      exact t4 j (by omega)
end FE
/-! ## a switch told, by one side alone -/
def c6 (A : Nat → Nat) (h : ah_T) : Prop := ah_i h 4 3 = nI (A 246) ∧ A 246 ≤ 10 ∧ ah_i h 6 0 = nI 24 ∧ ah_i h 6 1 = nI 3 ∧ ah_i h 6 3 = nI (A 247) ∧ A 247 ≤ 24 ∧ ∀ j, j < 3 * A 247 → ah_i h 7 j = nI (A (90 + j)) ∧ A (90 + j) < 256
def m6 (A : Nat → Nat) (h : ah_T) : Prop := ah_i h 84 246 = nI (A 246) ∧ A 246 ≤ 10 ∧ ah_i h 84 247 = nI (A 247) ∧ A 247 ≤ 24 ∧ ∀ j, j < 3 * A 247 → ah_i h 84 (90 + j) = nI (A (90 + j))
def tw (A : Nat → Nat) (x1 x2 x3 : Int32) : Int32 := if f_X11_isIn x2 120 = 0 ∨ f_X11_isIn x3 2 = 0 then -1 else if ¬ (0 ≤ x1 ∧ x1 < nI (A 246)) then -2 else if A 247 = 24 then -5 else 0
def tA (A : Nat → Nat) (x1 x2 x3 : Int32) : Nat → Nat := if tw A x1 x2 x3 = 0 then up4 A 90 247 x1.toNatClampNeg x2.toNatClampNeg x3.toNatClampNeg else A
section T6
variable {A : Nat → Nat} {h : ah_T} {x1 x2 x3 : Int32} {l m o : Nat}
theorem tw_1 (c : f_X11_isIn x2 120 = 0 ∨ f_X11_isIn x3 2 = 0) : tw A x1 x2 x3 = -1 := if_pos c
theorem tw_2 (n1 : ¬ f_X11_isIn x2 120 = 0) (n2 : ¬ f_X11_isIn x3 2 = 0) (c : ¬ (0 ≤ x1 ∧ x1 < nI (A 246))) : tw A x1 x2 x3 = -2 := by unfold tw; rw [if_neg (tl_no n1 n2), if_pos c]
theorem tw_in (hA : A 246 ≤ 10) (hl : l < A 246) (e1 : x1 = nI l) : ¬ ¬ (0 ≤ x1 ∧ x1 < nI (A 246)) := fun q => q (by subst e1; exact ⟨nI_pos' (by omega), nI_lt hl (by omega)⟩)
theorem tw_5 (hA : A 246 ≤ 10) (hl : l < A 246) (hm : m < 120) (ho : o < 2) (e1 : x1 = nI l) (e2 : x2 = nI m) (e3 : x3 = nI o) (k : A 247 = 24) : tw A x1 x2 x3 = -5 := by unfold tw; rw [if_neg (tl_ok hm ho e2 e3), if_neg (tw_in hA hl e1), if_pos k]
theorem tw_0 (hA : A 246 ≤ 10) (hl : l < A 246) (hm : m < 120) (ho : o < 2) (e1 : x1 = nI l) (e2 : x2 = nI m) (e3 : x3 = nI o) (k : A 247 < 24) : tw A x1 x2 x3 = 0 := by unfold tw; rw [if_neg (tl_ok hm ho e2 e3), if_neg (tw_in hA hl e1), if_neg (by omega)]
theorem tA_no (c : ¬ tw A x1 x2 x3 = 0) : tA A x1 x2 x3 = A := if_neg c
theorem tA_0 (hA : A 246 ≤ 10) (hl : l < A 246) (hm : m < 120) (ho : o < 2) (e1 : x1 = nI l) (e2 : x2 = nI m) (e3 : x3 = nI o) (k : A 247 < 24) : tA A x1 x2 x3 = up4 A 90 247 l m o := by
  unfold tA
  rw [if_pos (tw_0 hA hl hm ho e1 e2 e3 k)]
  subst e1 e2 e3
  rw [nI_clamp (by omega), nI_clamp (by omega), nI_clamp (by omega)]
/-- what a switch is, if it is told -/
theorem tw_got (hA : A 246 ≤ 10) (h24 : A 247 ≤ 24) (c : tw A x1 x2 x3 = 0) : ∃ l m o, l < A 246 ∧ m < 120 ∧ o < 2 ∧ x1 = nI l ∧ x2 = nI m ∧ x3 = nI o ∧ A 247 < 24 := by
  unfold tw at c
  by_cases c1 : f_X11_isIn x2 120 = 0 ∨ f_X11_isIn x3 2 = 0
  · rw [if_pos c1] at c; exact absurd c (by decide)
  rw [if_neg c1] at c
  by_cases c2 : ¬ (0 ≤ x1 ∧ x1 < nI (A 246))
  · rw [if_pos c2] at c; exact absurd c (by decide)
  rw [if_neg c2] at c
  by_cases c3 : A 247 = 24
  · rw [if_pos c3] at c; exact absurd c (by decide)
  obtain ⟨l, hl, e1⟩ := q_hasn (by omega) (Classical.not_not.mp c2)
  obtain ⟨m, hm, e2⟩ := q_isn (n := 120) (by decide) (fun q => c1 (.inl q))
  obtain ⟨o, ho, e3⟩ := q_isn (n := 2) (by decide) (fun q => c1 (.inr q))
  exact ⟨l, m, o, hl, hm, ho, e1, e2, e3, by omega⟩
theorem wf_tA (wf : WF A) : WF (tA A x1 x2 x3) := by
  by_cases c : tw A x1 x2 x3 = 0
  · have hA := wf.2.1.1
    obtain ⟨l, m, o, hl, hm, ho, e1, e2, e3, k⟩ := tw_got hA wf.2.2.1.1 c
    rw [tA_0 hA hl hm ho e1 e2 e3 k]
    exact wf_switch wf k hl hm (by omega)
  · rw [tA_no c]; exact wf
theorem tA_n (wf : WF A) {j : Nat} (hj : j < 90 ∨ 162 ≤ j) (h7 : j ≠ 247) : tA A x1 x2 x3 j = A j := by
  by_cases c : tw A x1 x2 x3 = 0
  · have hA := wf.2.1.1
    obtain ⟨l, m, o, hl, hm, ho, e1, e2, e3, k⟩ := tw_got hA wf.2.2.1.1 c
    rw [tA_0 hA hl hm ho e1 e2 e3 k]
    exact up4_n h7 (by omega)
  · rw [tA_no c]
theorem tA_m (wf : WF A) : tA A x1 x2 x3 247 = A 247 + if tw A x1 x2 x3 = 0 then 1 else 0 := by
  by_cases c : tw A x1 x2 x3 = 0
  · have hA := wf.2.1.1
    obtain ⟨l, m, o, hl, hm, ho, e1, e2, e3, k⟩ := tw_got hA wf.2.2.1.1 c
    rw [tA_0 hA hl hm ho e1 e2 e3 k, up4_m, if_pos c]
  · rw [tA_no c, if_neg c, Nat.add_zero]
theorem c_tell6 {Q : Option Value → ah_T → Prop} (hs : Sh h) (c : c6 A h) (x1 x2 x3 : Int32) (hq : ∀ h', Sh h' → ah_x h' = ah_x h → c6 (tA A x1 x2 x3) h' → (∀ a, a ≠ 6 → a ≠ 7 → eqc h h' a) → Q (some (.int (tw A x1 x2 x3))) h') : Mt mX10_tell [.ref 1, .int x1, .int x2, .int x3] h Q := by
  have c' := c
  obtain ⟨c1, c2, c3, c4, c5, c7, c8⟩ := c
  refine c_tell hs c1 c2 c3 c4 c5 c7 x1 x2 x3 (fun k => ?_) (fun n1 n2 k => ?_) (fun l m o hl hm ho e1 e2 e3 k => ?_) (fun l m o hl hm ho e1 e2 e3 k => ?_)
  · have e := tw_1 (A := A) (x1 := x1) k
    rw [← e]
    exact hq h hs rfl (by rw [tA_no (by rw [e]; decide)]; exact c') (fun _ _ _ => eqc_rfl)
  · have e := tw_2 n1 n2 k
    rw [← e]
    exact hq h hs rfl (by rw [tA_no (by rw [e]; decide)]; exact c') (fun _ _ _ => eqc_rfl)
  · have e := tw_5 c2 hl hm ho e1 e2 e3 k
    rw [← e]
    exact hq h hs rfl (by rw [tA_no (by rw [e]; decide)]; exact c') (fun _ _ _ => eqc_rfl)
  · have e := tw_0 c2 hl hm ho e1 e2 e3 k
    rw [← e]
    refine hq (cA h 6 (A 247) l m o) (sh_cA hs) x_cA ?_ (fun a n1 n2 => cA_eq eqc_rfl n1 n2)
    rw [tA_0 c2 hl hm ho e1 e2 e3 k]
    unfold c6
    rw [up4_m, up4_n (j := 246) (by omega) (by omega), cA_i (by decide) (by decide), cA_t, if_neg (by decide), cA_t, if_neg (by decide), cA_t, if_pos rfl]
    refine ⟨c1, c2, c3, c4, rfl, by omega, fun j hj => ?_⟩
    rw [show (7 : Nat) = 6 + 1 from rfl, cA_c]
    rcases Nat.lt_or_ge j (3 * A 247) with z | z
    · rw [if_neg (by omega), if_neg (by omega), if_neg (by omega), up4_n (by omega) (by omega)]
      exact c8 j z
    · rcases (show j = 3 * A 247 ∨ j = 3 * A 247 + 1 ∨ j = 3 * A 247 + 2 by omega) with z | z | z
      · subst z; rw [if_pos (by omega), up4_1 (by omega)]; exact ⟨rfl, by omega⟩
      · subst z; rw [if_neg (by omega), if_pos (by omega), up4_2 (by omega)]; exact ⟨rfl, by omega⟩
      · subst z; rw [if_neg (by omega), if_neg (by omega), if_pos (by omega), up4_3 (by omega)]; exact ⟨rfl, by omega⟩
theorem m_tell6 {Q : Option Value → ah_T → Prop} (hs : Sh h) (c : m6 A h) (x1 x2 x3 : Int32) (hq : ∀ h', Sh h' → ah_x h' = ah_x h → m6 (tA A x1 x2 x3) h' → (∀ a, a ≠ 84 → eqc h h' a) → (∀ j, (j < 90 ∨ 162 ≤ j) → j ≠ 247 → ah_i h' 84 j = ah_i h 84 j) → Q (some (.int (tw A x1 x2 x3))) h') : Mt mX12_tellsSwitch [.ref 82, .int x1, .int x2, .int x3] h Q := by
  have c' := c
  obtain ⟨c1, c2, c5, c7, c8⟩ := c
  refine m_tells hs c1 c2 c5 c7 x1 x2 x3 (fun k => ?_) (fun n1 n2 k => ?_) (fun l m o hl hm ho e1 e2 e3 k => ?_) (fun l m o hl hm ho e1 e2 e3 k => ?_)
  · have e := tw_1 (A := A) (x1 := x1) k
    rw [← e]
    exact hq h hs rfl (by rw [tA_no (by rw [e]; decide)]; exact c') (fun _ _ => eqc_rfl) (fun _ _ _ => rfl)
  · have e := tw_2 n1 n2 k
    rw [← e]
    exact hq h hs rfl (by rw [tA_no (by rw [e]; decide)]; exact c') (fun _ _ => eqc_rfl) (fun _ _ _ => rfl)
  · have e := tw_5 c2 hl hm ho e1 e2 e3 k
    rw [← e]
    exact hq h hs rfl (by rw [tA_no (by rw [e]; decide)]; exact c') (fun _ _ => eqc_rfl) (fun _ _ _ => rfl)
  · have e := tw_0 c2 hl hm ho e1 e2 e3 k
    rw [← e]
    refine hq (mA h 90 247 (A 247) l m o) (sh_mA hs) x_mA ?_ (fun a n1 => mA_eq eqc_rfl n1) (fun j hj h7 => by rw [mA_i, if_neg h7, if_neg (by omega), if_neg (by omega), if_neg (by omega)])
    rw [tA_0 c2 hl hm ho e1 e2 e3 k]
    unfold m6
    rw [up4_m, up4_n (j := 246) (by omega) (by omega), mA_i, if_neg (by decide), if_neg (by omega), if_neg (by omega), if_neg (by omega), mA_i, if_pos rfl]
    refine ⟨c1, c2, rfl, by omega, fun j hj => ?_⟩
    rw [mA_i, if_neg (by omega)]
    rcases Nat.lt_or_ge j (3 * A 247) with z | z
    · rw [if_neg (by omega), if_neg (by omega), if_neg (by omega), up4_n (by omega) (by omega)]
      exact c8 j z
    · rcases (show j = 3 * A 247 ∨ j = 3 * A 247 + 1 ∨ j = 3 * A 247 + 2 by omega) with z | z | z
      · subst z; rw [if_pos (by omega), up4_1 (by omega)]
      · subst z; rw [if_neg (by omega), if_pos (by omega), up4_2 (by omega)]
      · subst z; rw [if_neg (by omega), if_neg (by omega), if_pos (by omega), up4_3 (by omega)]
end T6
