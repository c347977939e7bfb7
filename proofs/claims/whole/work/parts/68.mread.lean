/-! ===== the model's reader ===== -/
def eqx (P : Nat → Prop) (h h' : ah_T) (a : Nat) : Prop := (∀ j, ¬ P j → ah_i h' a j = ah_i h a j) ∧ (∀ j, ah_l h' a j = ah_l h a j) ∧ (∀ j, ah_r h' a j = ah_r h a j) ∧ ah_k h' a = ah_k h a ∧ ah_n h' a = ah_n h a
/-- only some fields of the model are others -/
def fr82 (P : Nat → Prop) (h0 h : ah_T) : Prop := Sh h ∧ ah_x h = ah_x h0 ∧ (∀ a, a ≠ 82 → eqc h0 h a) ∧ eqx P h0 h 82
theorem fr82_rfl {P : Nat → Prop} {h : ah_T} (hs : Sh h) : fr82 P h h := ⟨hs, rfl, fun _ _ => eqc_rfl, fun _ _ => rfl, fun _ => rfl, fun _ => rfl, rfl, rfl⟩
theorem fr82_set {P : Nat → Prop} {h0 h : ah_T} {j : Nat} {x : Int32} (q : fr82 P h0 h) (hj : P j) : fr82 P h0 (ah_si h 82 j x) := by
  obtain ⟨q1, q2, q3, q4, q5, q6, q7, q8⟩ := q
  exact ⟨sh_si q1, by rw [ah_x_si, q2], fun a n => eqc_si (q3 a n) n, fun k hk => by rw [ah_i_sn (fun z => hk (by rw [z.2]; exact hj))]; exact q4 k hk, fun k => by rw [ah_l_si]; exact q5 k, fun k => by rw [ah_r_si]; exact q6 k, by rw [ah_k_si]; exact q7, by rw [ah_n_si]; exact q8⟩
abbrev rP : Nat → Prop := fun j => j = 17 ∨ j = 18 ∨ j = 19
section RD
variable {cs vs pl : Nat → Nat} {isV : Nat → Bool} {n : Nat} {h0 h : ah_T}
/-- the tokens as the model has them -/
def Tk (cs vs pl : Nat → Nat) (isV : Nat → Bool) (n : Nat) (h : ah_T) : Prop := n ≤ 400 ∧ cs n = 0 ∧ isV 0 = false ∧ (∀ k, k ≤ n → ah_i h 90 k = nI (cs k) ∧ ah_i h 91 k = nI (vs k) ∧ ah_i h 92 k = nI (pl k) ∧ cs k < 400 ∧ vs k < 2 ^ 31 ∧ pl k ≤ 400) ∧ ∀ c, c < 400 → (f_X12_isValue h (nI c) = 0 ↔ isV c = false)
theorem Tk_fr (q : fr82 rP h0 h) (t : Tk cs vs pl isV n h0) : Tk cs vs pl isV n h := by
  obtain ⟨t1, t2, t3, t4, t5⟩ := t
  refine ⟨t1, t2, t3, fun k hk => by rw [(q.2.2.1 90 (by decide)).1, (q.2.2.1 91 (by decide)).1, (q.2.2.1 92 (by decide)).1]; exact t4 k hk, fun c hc => ?_⟩
  have e : f_X12_isValue h (nI c) = f_X12_isValue h0 (nI c) := by unfold f_X12_isValue; rw [q.2.2.2.1 8 (by decide)]
  rw [e]
  exact t5 c hc
def mS (h0 h : ah_T) (i lv : Nat) : Prop := fr82 rP h0 h ∧ ah_i h 82 17 = nI i ∧ ah_i h 82 18 = nI lv ∧ ah_i h 82 19 = -1
def mF (h0 h : ah_T) (p : Nat) : Prop := fr82 rP h0 h ∧ p ≤ 400 ∧ ah_i h 82 19 = nI p
theorem mS_fine {i lv : Nat} (q : mS h0 h i lv) : ¬ f_X12_fine h = 0 := by unfold f_X12_fine; rw [q.2.2.2, if_pos rfl]; decide
theorem mF_fine {p : Nat} (q : mF h0 h p) : f_X12_fine h = 0 := by unfold f_X12_fine; rw [q.2.2, if_neg (nI_m1 (by have := q.2.1; omega))]
theorem mt_takesS {Q : Option Value → ah_T → Prop} {i lv k : Nat} {x : Int32} (t : Tk cs vs pl isV n h0) (q : mS h0 h i lv) (hi : i ≤ n) (e : x = nI k) (hk : k < 400) (h1 : cs i = k → ∀ h', mS h0 h' (i + 1) lv → Q (some (.int 1)) h') (h2 : cs i ≠ k → Q (some (.int 0)) h) : Mt mX12_takes0 [.ref 82, .int x] h Q := by
  subst e
  have t' := Tk_fr q.1 t
  obtain ⟨c1, c2, c3, c4, c5, c6⟩ := t'.2.2.2.1 i hi
  have h4 := t'.1
  refine T_X12_takes0 q.1.1 _ ?_
  (first | refine ⟨fun _ => ?_, fun n_ => absurd (mS_fine q) n_⟩ | refine ⟨fun n_ => absurd (mS_fine q) n_, fun _ => ?_⟩ | refine ⟨fun y_ => absurd y_ (mS_fine q), fun _ => ?_⟩ | refine ⟨fun _ => ?_, fun y_ => absurd y_ (mS_fine q)⟩)
  rw [q.2.1, nI_clamp (by omega), c1]
  refine ⟨by rw [sh_n q.1.1 90 401 (by decide) (by decide) rfl]; exact (vp_nI (by omega)).mpr (by omega), fun z => h2 (fun y => z (by rw [y])), fun z => ?_⟩
  rw [nI_1]
  rintro h4 rfl
  exact h1 ((nI_eq (by omega) (by omega)).mp z) _ ⟨fr82_set q.1 (.inl rfl), ah_i_ss, by rw [ah_i_sn (by omega)]; exact q.2.2.1, by rw [ah_i_sn (by omega)]; exact q.2.2.2⟩
theorem mt_takesF {Q : Option Value → ah_T → Prop} {p : Nat} {x : Int32} (q : mF h0 h p) (h2 : Q (some (.int 0)) h) : Mt mX12_takes0 [.ref 82, .int x] h Q := by
  refine T_X12_takes0 q.1.1 _ ?_
  (first | refine ⟨fun _ => ?_, fun n_ => absurd (mF_fine q) n_⟩ | refine ⟨fun n_ => absurd (mF_fine q) n_, fun _ => ?_⟩ | refine ⟨fun y_ => absurd y_ (mF_fine q), fun _ => ?_⟩ | refine ⟨fun _ => ?_, fun y_ => absurd y_ (mF_fine q)⟩)
  exact h2
theorem mt_faultsS {Q : Option Value → ah_T → Prop} {i lv : Nat} (t : Tk cs vs pl isV n h0) (q : mS h0 h i lv) (hi : i ≤ n) (h1 : ∀ h', mF h0 h' (pl i) → Q none h') : Mt mX12_faults [.ref 82] h Q := by
  have t' := Tk_fr q.1 t
  obtain ⟨c1, c2, c3, c4, c5, c6⟩ := t'.2.2.2.1 i hi
  have h4 := t'.1
  refine T_X12_faults q.1.1 ?_
  (first | refine ⟨fun _ => ?_, fun n_ => absurd (mS_fine q) n_⟩ | refine ⟨fun n_ => absurd (mS_fine q) n_, fun _ => ?_⟩ | refine ⟨fun y_ => absurd y_ (mS_fine q), fun _ => ?_⟩ | refine ⟨fun _ => ?_, fun y_ => absurd y_ (mS_fine q)⟩)
  rw [q.2.1, nI_clamp (by omega), c3]
  refine ⟨by rw [sh_n q.1.1 92 401 (by decide) (by decide) rfl]; exact (vp_nI (by omega)).mpr (by omega), ?_⟩
  rintro h3 rfl
  exact h1 _ ⟨fr82_set q.1 (.inr (.inr rfl)), c6, ah_i_ss⟩
theorem mt_faultsF {Q : Option Value → ah_T → Prop} {p : Nat} (q : mF h0 h p) (h1 : Q none h) : Mt mX12_faults [.ref 82] h Q := by
  refine T_X12_faults q.1.1 ?_
  (first | refine ⟨fun _ => ?_, fun n_ => absurd (mF_fine q) n_⟩ | refine ⟨fun n_ => absurd (mF_fine q) n_, fun _ => ?_⟩ | refine ⟨fun y_ => absurd y_ (mF_fine q), fun _ => ?_⟩ | refine ⟨fun _ => ?_, fun y_ => absurd y_ (mF_fine q)⟩)
  exact h1
theorem mt_mustS {Q : Option Value → ah_T → Prop} {i lv k : Nat} {x : Int32} (t : Tk cs vs pl isV n h0) (q : mS h0 h i lv) (hi : i ≤ n) (e : x = nI k) (hk : k < 400) (h1 : cs i = k → ∀ h', mS h0 h' (i + 1) lv → Q none h') (h2 : cs i ≠ k → ∀ h', mF h0 h' (pl i) → Q none h') : Mt mX12_must [.ref 82, .int x] h Q := by
  refine T_X12_must q.1.1 _ (mt_takesS t q hi e hk (fun c h' w => ⟨_, rfl, w.1.1, ?_⟩) (fun c => ⟨_, rfl, q.1.1, ?_⟩))
  · (first | refine ⟨fun _ => ?_, fun n_ => absurd (show ¬ (1 : Int32) = 0 by decide) n_⟩ | refine ⟨fun n_ => absurd (show ¬ (1 : Int32) = 0 by decide) n_, fun _ => ?_⟩ | refine ⟨fun y_ => absurd y_ (show ¬ (1 : Int32) = 0 by decide), fun _ => ?_⟩ | refine ⟨fun _ => ?_, fun y_ => absurd y_ (show ¬ (1 : Int32) = 0 by decide)⟩)
    exact h1 c h' w
  · (first | refine ⟨fun _ => ?_, fun n_ => absurd (show (0 : Int32) = 0 by rfl) n_⟩ | refine ⟨fun n_ => absurd (show (0 : Int32) = 0 by rfl) n_, fun _ => ?_⟩ | refine ⟨fun y_ => absurd y_ (show (0 : Int32) = 0 by rfl), fun _ => ?_⟩ | refine ⟨fun _ => ?_, fun y_ => absurd y_ (show (0 : Int32) = 0 by rfl)⟩)
    exact mt_faultsS t q hi (fun h' w => ⟨rfl, w.1.1, h2 c h' w⟩)
theorem mt_mustF {Q : Option Value → ah_T → Prop} {p : Nat} {x : Int32} (q : mF h0 h p) (h1 : Q none h) : Mt mX12_must [.ref 82, .int x] h Q := by
  refine T_X12_must q.1.1 _ (mt_takesF q ⟨_, rfl, q.1.1, ?_⟩)
  (first | refine ⟨fun _ => ?_, fun n_ => absurd (show (0 : Int32) = 0 by rfl) n_⟩ | refine ⟨fun n_ => absurd (show (0 : Int32) = 0 by rfl) n_, fun _ => ?_⟩ | refine ⟨fun y_ => absurd y_ (show (0 : Int32) = 0 by rfl), fun _ => ?_⟩ | refine ⟨fun _ => ?_, fun y_ => absurd y_ (show (0 : Int32) = 0 by rfl)⟩)
  exact mt_faultsF q ⟨rfl, q.1.1, h1⟩
theorem mt_leafS {Q : Option Value → ah_T → Prop} {i lv : Nat} (t : Tk cs vs pl isV n h0) (q : mS h0 h i lv) (hi : i ≤ n) (hl : lv ≤ 50) (h1 : lv ≠ 50 → ∀ h', mS h0 h' (i + 1) (lv + 1) → Q none h') (h2 : lv = 50 → ∀ h', mF h0 h' (pl i) → Q none h') : Mt mX12_leaf [.ref 82] h Q := by
  refine T_X12_leaf q.1.1 ?_
  by_cases c : lv = 50
  · (first | refine ⟨fun _ => ?_, fun n_ => absurd (show ah_i h 82 18 = 50 by rw [q.2.2.1, c]; rfl) n_⟩ | refine ⟨fun n_ => absurd (show ah_i h 82 18 = 50 by rw [q.2.2.1, c]; rfl) n_, fun _ => ?_⟩ | refine ⟨fun y_ => absurd y_ (show ah_i h 82 18 = 50 by rw [q.2.2.1, c]; rfl), fun _ => ?_⟩ | refine ⟨fun _ => ?_, fun y_ => absurd y_ (show ah_i h 82 18 = 50 by rw [q.2.2.1, c]; rfl)⟩)
    refine mt_faultsS t q hi (fun h9 w => ⟨rfl, w.1.1, ?_⟩)
    rintro h12 rfl
    have w2 : mF h0 (ah_si h9 82 18 (ah_i h9 82 18 + 1)) (pl i) := ⟨fr82_set w.1 (.inr (.inl rfl)), w.2.1, by rw [ah_i_sn (by omega)]; exact w.2.2⟩
    (first | refine ⟨fun _ => ?_, fun n_ => absurd (mF_fine w2) n_⟩ | refine ⟨fun n_ => absurd (mF_fine w2) n_, fun _ => ?_⟩ | refine ⟨fun y_ => absurd y_ (mF_fine w2), fun _ => ?_⟩ | refine ⟨fun _ => ?_, fun y_ => absurd y_ (mF_fine w2)⟩)
    exact h2 c _ w2
  · (first | refine ⟨fun _ => ?_, fun n_ => absurd (show ¬ ah_i h 82 18 = 50 by rw [q.2.2.1, n_50, nI_eq (by omega) (by omega)]; exact c) n_⟩ | refine ⟨fun n_ => absurd (show ¬ ah_i h 82 18 = 50 by rw [q.2.2.1, n_50, nI_eq (by omega) (by omega)]; exact c) n_, fun _ => ?_⟩ | refine ⟨fun y_ => absurd y_ (show ¬ ah_i h 82 18 = 50 by rw [q.2.2.1, n_50, nI_eq (by omega) (by omega)]; exact c), fun _ => ?_⟩ | refine ⟨fun _ => ?_, fun y_ => absurd y_ (show ¬ ah_i h 82 18 = 50 by rw [q.2.2.1, n_50, nI_eq (by omega) (by omega)]; exact c)⟩)
    rintro h2 rfl
    rw [q.2.2.1, nI_1]
    have w2 : mS h0 (ah_si h 82 18 (nI (lv + 1))) i (lv + 1) := ⟨fr82_set q.1 (.inr (.inl rfl)), by rw [ah_i_sn (by omega)]; exact q.2.1, ah_i_ss, by rw [ah_i_sn (by omega)]; exact q.2.2.2⟩
    (first | refine ⟨fun _ => ?_, fun n_ => absurd (mS_fine w2) n_⟩ | refine ⟨fun n_ => absurd (mS_fine w2) n_, fun _ => ?_⟩ | refine ⟨fun y_ => absurd y_ (mS_fine w2), fun _ => ?_⟩ | refine ⟨fun _ => ?_, fun y_ => absurd y_ (mS_fine w2)⟩)
    rintro h6 rfl
    rw [w2.2.1, nI_1]
    exact h1 c _ ⟨fr82_set w2.1 (.inl rfl), ah_i_ss, by rw [ah_i_sn (by omega)]; exact w2.2.2.1, by rw [ah_i_sn (by omega)]; exact w2.2.2.2⟩
/-- what stands behind an element that was read -/
def pst {α : Type} (pl : Nat → Nat) (h0 : ah_T) (r : pR α) (h' : ah_T) : Prop := (r.1 = true → mS h0 h' r.2.1 r.2.2.1) ∧ (r.1 = false → mF h0 h' (pl r.2.1))
/-- a method reads as f does -/
def mRd {α : Type} (cs vs pl : Nat → Nat) (isV : Nat → Bool) (n : Nat) (h0 : ah_T) (M : ab_M) (x : Int32) (f : Nat → Nat → pR α) : Prop :=
  (∀ (Q : Option Value → ah_T → Prop) (h : ah_T) (i lv : Nat), i ≤ n → lv ≤ 50 → mS h0 h i lv → (∀ h', pst pl h0 (f i lv) h' → Q none h') → Mt M [.ref 82, .int x] h Q) ∧ ∀ (Q : Option Value → ah_T → Prop) (h : ah_T) (p : Nat), mF h0 h p → Q none h → Mt M [.ref 82, .int x] h Q
theorem pst_Sh {α : Type} {r : pR α} {h' : ah_T} (q : pst pl h0 r h') : Sh h' := by
  cases c : r.1
  · exact (q.2 c).1.1
  · exact (q.1 c).1.1
theorem sg (k : Nat) (hk : k < 200) : f_X12_sign (nI k) = nI (100 + k) := by unfold f_X12_sign; rw [n_100, nI_add]
theorem mr_term {d : Nat} {x : Int32} {rec : Option (Nat → Nat → pR Mg)} (t : Tk cs vs pl isV n h0) (hd : 8 ≤ d) (hr : ∀ f, rec = some f → lvO n f) (hp : mRd cs vs pl isV n h0 (mX12_readPart (d - 1)) x (pPart cs vs isV rec)) : mRd cs vs pl isV n h0 (mX12_readTerm d) x (pTerm cs vs isV rec) := by
  have ok := pPart_ok (vs := vs) t.2.1 t.2.2.1 hr
  have lF : ∀ (Q : Option Value → ah_T → Prop) (h : ah_T) (p : Nat), mF h0 h p → Q none h → Wp (mX12_readTerm d) Q 0 0 5 [some (.ref 82), some (.int x)] [] h := by
    intro Q h p q hq
    refine T_X12_readTerm_5 hd q.1.1 _ (mt_takesF q ⟨_, rfl, q.1.1, ?_⟩)
    (first | refine ⟨fun _ => ?_, fun n_ => absurd (show (0 : Int32) = 0 by rfl) n_⟩ | refine ⟨fun n_ => absurd (show (0 : Int32) = 0 by rfl) n_, fun _ => ?_⟩ | refine ⟨fun y_ => absurd y_ (show (0 : Int32) = 0 by rfl), fun _ => ?_⟩ | refine ⟨fun _ => ?_, fun y_ => absurd y_ (show (0 : Int32) = 0 by rfl)⟩)
    refine mt_takesF q ⟨_, rfl, q.1.1, ?_⟩
    (first | refine ⟨fun _ => ?_, fun n_ => absurd (show (0 : Int32) = 0 by rfl) n_⟩ | refine ⟨fun n_ => absurd (show (0 : Int32) = 0 by rfl) n_, fun _ => ?_⟩ | refine ⟨fun y_ => absurd y_ (show (0 : Int32) = 0 by rfl), fun _ => ?_⟩ | refine ⟨fun _ => ?_, fun y_ => absurd y_ (show (0 : Int32) = 0 by rfl)⟩)
    refine mt_takesF q ⟨_, rfl, q.1.1, ?_⟩
    (first | refine ⟨fun _ => ?_, fun n_ => absurd (show (0 : Int32) = 0 by rfl) n_⟩ | refine ⟨fun n_ => absurd (show (0 : Int32) = 0 by rfl) n_, fun _ => ?_⟩ | refine ⟨fun y_ => absurd y_ (show (0 : Int32) = 0 by rfl), fun _ => ?_⟩ | refine ⟨fun _ => ?_, fun y_ => absurd y_ (show (0 : Int32) = 0 by rfl)⟩)
    exact hq
  have lS : ∀ (k : Nat) (Q : Option Value → ah_T → Prop) (h : ah_T) (y : Mg) (i lv : Nat), n - i < k → i ≤ n → lv ≤ 50 → mS h0 h i lv → (∀ h', pst pl h0 (pCh cs (pPart cs vs isV rec) isMul opM k y i lv) h' → Q none h') → Wp (mX12_readTerm d) Q 0 0 5 [some (.ref 82), some (.int x)] [] h := by
    intro k
    induction k with
    | zero => intro Q h y i lv hk; omega
    | succ k ih =>
      intro Q h y i lv hk hi hl q hq
      have step : isMul (cs i) = true → ∀ h4, mS h0 h4 (i + 1) lv → i + 1 ≤ n → Mt (mX12_readPart (d - 1)) [.ref 82, .int x] h4 (ab_qv fun h8 => Sh h8 ∧ Wp (mX12_readTerm d) Q 0 0 5 [some (.ref 82), some (.int x)] [] h8) := by
        intro c h4 q4 hi4
        unfold pCh at hq
        rw [if_pos c] at hq
        obtain ⟨e1, e2, e3⟩ := ok (i + 1) lv hi4 hl
        refine hp.1 _ _ (i + 1) lv hi4 hl q4 (fun h8 w => ⟨rfl, pst_Sh w, ?_⟩)
        by_cases c2 : (pPart cs vs isV rec (i + 1) lv).1 = true
        · rw [if_pos c2] at hq
          obtain ⟨e4, e5, e6⟩ := e3 c2
          exact ih Q h8 _ _ _ (by omega) e1 e6 (w.1 c2) hq
        · rw [if_neg c2] at hq
          exact lF Q h8 _ (w.2 (Bool.eq_false_iff.mpr c2)) (hq h8 w)
      have lt : isMul (cs i) = true → i + 1 ≤ n := by
        intro c
        rcases Nat.lt_or_ge i n with z | z
        · exact z
        · have : i = n := by omega
          rw [this, t.2.1] at c
          exact absurd c (by decide)
      refine T_X12_readTerm_5 hd q.1.1 _ ?_
      rw [show f_X12_sign 42 = nI 142 from rfl, show f_X12_sign 47 = nI 147 from rfl, show f_X12_sign 37 = nI 137 from rfl]
      refine mt_takesS t q hi rfl (by decide) (fun c h4 w => ⟨_, rfl, w.1.1, ?_⟩) (fun c => ⟨_, rfl, q.1.1, ?_⟩)
      · have c' : isMul (cs i) = true := by rw [c]; rfl
        (first | refine ⟨fun _ => ?_, fun n_ => absurd (show ¬ (1 : Int32) = 0 by decide) n_⟩ | refine ⟨fun n_ => absurd (show ¬ (1 : Int32) = 0 by decide) n_, fun _ => ?_⟩ | refine ⟨fun y_ => absurd y_ (show ¬ (1 : Int32) = 0 by decide), fun _ => ?_⟩ | refine ⟨fun _ => ?_, fun y_ => absurd y_ (show ¬ (1 : Int32) = 0 by decide)⟩)
        exact step c' h4 w (lt c')
      · (first | refine ⟨fun _ => ?_, fun n_ => absurd (show (0 : Int32) = 0 by rfl) n_⟩ | refine ⟨fun n_ => absurd (show (0 : Int32) = 0 by rfl) n_, fun _ => ?_⟩ | refine ⟨fun y_ => absurd y_ (show (0 : Int32) = 0 by rfl), fun _ => ?_⟩ | refine ⟨fun _ => ?_, fun y_ => absurd y_ (show (0 : Int32) = 0 by rfl)⟩)
        refine mt_takesS t q hi rfl (by decide) (fun c2 h4 w => ⟨_, rfl, w.1.1, ?_⟩) (fun c2 => ⟨_, rfl, q.1.1, ?_⟩)
        · have c' : isMul (cs i) = true := by rw [c2]; rfl
          (first | refine ⟨fun _ => ?_, fun n_ => absurd (show ¬ (1 : Int32) = 0 by decide) n_⟩ | refine ⟨fun n_ => absurd (show ¬ (1 : Int32) = 0 by decide) n_, fun _ => ?_⟩ | refine ⟨fun y_ => absurd y_ (show ¬ (1 : Int32) = 0 by decide), fun _ => ?_⟩ | refine ⟨fun _ => ?_, fun y_ => absurd y_ (show ¬ (1 : Int32) = 0 by decide)⟩)
          exact step c' h4 w (lt c')
        · (first | refine ⟨fun _ => ?_, fun n_ => absurd (show (0 : Int32) = 0 by rfl) n_⟩ | refine ⟨fun n_ => absurd (show (0 : Int32) = 0 by rfl) n_, fun _ => ?_⟩ | refine ⟨fun y_ => absurd y_ (show (0 : Int32) = 0 by rfl), fun _ => ?_⟩ | refine ⟨fun _ => ?_, fun y_ => absurd y_ (show (0 : Int32) = 0 by rfl)⟩)
          refine mt_takesS t q hi rfl (by decide) (fun c3 h4 w => ⟨_, rfl, w.1.1, ?_⟩) (fun c3 => ⟨_, rfl, q.1.1, ?_⟩)
          · have c' : isMul (cs i) = true := by rw [c3]; rfl
            (first | refine ⟨fun _ => ?_, fun n_ => absurd (show ¬ (1 : Int32) = 0 by decide) n_⟩ | refine ⟨fun n_ => absurd (show ¬ (1 : Int32) = 0 by decide) n_, fun _ => ?_⟩ | refine ⟨fun y_ => absurd y_ (show ¬ (1 : Int32) = 0 by decide), fun _ => ?_⟩ | refine ⟨fun _ => ?_, fun y_ => absurd y_ (show ¬ (1 : Int32) = 0 by decide)⟩)
            exact step c' h4 w (lt c')
          · (first | refine ⟨fun _ => ?_, fun n_ => absurd (show (0 : Int32) = 0 by rfl) n_⟩ | refine ⟨fun n_ => absurd (show (0 : Int32) = 0 by rfl) n_, fun _ => ?_⟩ | refine ⟨fun y_ => absurd y_ (show (0 : Int32) = 0 by rfl), fun _ => ?_⟩ | refine ⟨fun _ => ?_, fun y_ => absurd y_ (show (0 : Int32) = 0 by rfl)⟩)
            have c' : ¬ isMul (cs i) = true := by
              unfold isMul
              simp [c, c2, c3]
            unfold pCh at hq
            rw [if_neg c'] at hq
            exact hq h ⟨fun _ => q, fun z => absurd (show true = false from z) (by decide)⟩
  refine ⟨fun Q h i lv hi hl q hq => ?_, fun Q h p q hq => ?_⟩
  · refine T_X12_readTerm hd q.1.1 _ ?_
    obtain ⟨e1, e2, e3⟩ := ok i lv hi hl
    refine hp.1 _ _ i lv hi hl q (fun h1 w => ⟨rfl, pst_Sh w, ?_⟩)
    unfold pTerm pChain at hq
    by_cases c2 : (pPart cs vs isV rec i lv).1 = true
    · rw [if_pos c2] at hq
      obtain ⟨e4, e5, e6⟩ := e3 c2
      have := t.1
      exact lS 401 Q h1 _ _ _ (by omega) e1 e6 (w.1 c2) hq
    · rw [if_neg c2] at hq
      exact lF Q h1 _ (w.2 (Bool.eq_false_iff.mpr c2)) (hq h1 w)
  · exact T_X12_readTerm hd q.1.1 _ (hp.2 _ _ p q ⟨rfl, q.1.1, lF Q h p q hq⟩)
theorem mr_sum {d : Nat} {x : Int32} {rec : Option (Nat → Nat → pR Mg)} (t : Tk cs vs pl isV n h0) (hd : 8 ≤ d) (hr : ∀ f, rec = some f → lvO n f) (hp : mRd cs vs pl isV n h0 (mX12_readTerm (d - 1)) x (pTerm cs vs isV rec)) : mRd cs vs pl isV n h0 (mX12_readSum d) x (pSum0 cs vs isV rec) := by
  have ok := pTerm_ok (vs := vs) t.2.1 t.2.2.1 hr
  have lF : ∀ (Q : Option Value → ah_T → Prop) (h : ah_T) (p : Nat), mF h0 h p → Q none h → Wp (mX12_readSum d) Q 0 0 5 [some (.ref 82), some (.int x)] [] h := by
    intro Q h p q hq
    refine T_X12_readSum_5 hd q.1.1 _ (mt_takesF q ⟨_, rfl, q.1.1, ?_⟩)
    (first | refine ⟨fun _ => ?_, fun n_ => absurd (show (0 : Int32) = 0 by rfl) n_⟩ | refine ⟨fun n_ => absurd (show (0 : Int32) = 0 by rfl) n_, fun _ => ?_⟩ | refine ⟨fun y_ => absurd y_ (show (0 : Int32) = 0 by rfl), fun _ => ?_⟩ | refine ⟨fun _ => ?_, fun y_ => absurd y_ (show (0 : Int32) = 0 by rfl)⟩)
    refine mt_takesF q ⟨_, rfl, q.1.1, ?_⟩
    (first | refine ⟨fun _ => ?_, fun n_ => absurd (show (0 : Int32) = 0 by rfl) n_⟩ | refine ⟨fun n_ => absurd (show (0 : Int32) = 0 by rfl) n_, fun _ => ?_⟩ | refine ⟨fun y_ => absurd y_ (show (0 : Int32) = 0 by rfl), fun _ => ?_⟩ | refine ⟨fun _ => ?_, fun y_ => absurd y_ (show (0 : Int32) = 0 by rfl)⟩)
    exact hq
  have lS : ∀ (k : Nat) (Q : Option Value → ah_T → Prop) (h : ah_T) (y : Mg) (i lv : Nat), n - i < k → i ≤ n → lv ≤ 50 → mS h0 h i lv → (∀ h', pst pl h0 (pCh cs (pTerm cs vs isV rec) isAdd opM k y i lv) h' → Q none h') → Wp (mX12_readSum d) Q 0 0 5 [some (.ref 82), some (.int x)] [] h := by
    intro k
    induction k with
    | zero => intro Q h y i lv hk; omega
    | succ k ih =>
      intro Q h y i lv hk hi hl q hq
      have step : isAdd (cs i) = true → ∀ h4, mS h0 h4 (i + 1) lv → i + 1 ≤ n → Mt (mX12_readTerm (d - 1)) [.ref 82, .int x] h4 (ab_qv fun h8 => Sh h8 ∧ Wp (mX12_readSum d) Q 0 0 5 [some (.ref 82), some (.int x)] [] h8) := by
        intro c h4 q4 hi4
        unfold pCh at hq
        rw [if_pos c] at hq
        obtain ⟨e1, e2, e3⟩ := ok (i + 1) lv hi4 hl
        refine hp.1 _ _ (i + 1) lv hi4 hl q4 (fun h8 w => ⟨rfl, pst_Sh w, ?_⟩)
        by_cases c2 : (pTerm cs vs isV rec (i + 1) lv).1 = true
        · rw [if_pos c2] at hq
          obtain ⟨e4, e5, e6⟩ := e3 c2
          exact ih Q h8 _ _ _ (by omega) e1 e6 (w.1 c2) hq
        · rw [if_neg c2] at hq
          exact lF Q h8 _ (w.2 (Bool.eq_false_iff.mpr c2)) (hq h8 w)
      have lt : isAdd (cs i) = true → i + 1 ≤ n := by
        intro c
        rcases Nat.lt_or_ge i n with z | z
        · exact z
        · have : i = n := by omega
          rw [this, t.2.1] at c
          exact absurd c (by decide)
      refine T_X12_readSum_5 hd q.1.1 _ ?_
      rw [show f_X12_sign 43 = nI 143 from rfl, show f_X12_sign 45 = nI 145 from rfl]
      refine mt_takesS t q hi rfl (by decide) (fun c h4 w => ⟨_, rfl, w.1.1, ?_⟩) (fun c => ⟨_, rfl, q.1.1, ?_⟩)
      · have c' : isAdd (cs i) = true := by rw [c]; rfl
        (first | refine ⟨fun _ => ?_, fun n_ => absurd (show ¬ (1 : Int32) = 0 by decide) n_⟩ | refine ⟨fun n_ => absurd (show ¬ (1 : Int32) = 0 by decide) n_, fun _ => ?_⟩ | refine ⟨fun y_ => absurd y_ (show ¬ (1 : Int32) = 0 by decide), fun _ => ?_⟩ | refine ⟨fun _ => ?_, fun y_ => absurd y_ (show ¬ (1 : Int32) = 0 by decide)⟩)
        exact step c' h4 w (lt c')
      · (first | refine ⟨fun _ => ?_, fun n_ => absurd (show (0 : Int32) = 0 by rfl) n_⟩ | refine ⟨fun n_ => absurd (show (0 : Int32) = 0 by rfl) n_, fun _ => ?_⟩ | refine ⟨fun y_ => absurd y_ (show (0 : Int32) = 0 by rfl), fun _ => ?_⟩ | refine ⟨fun _ => ?_, fun y_ => absurd y_ (show (0 : Int32) = 0 by rfl)⟩)
        refine mt_takesS t q hi rfl (by decide) (fun c2 h4 w => ⟨_, rfl, w.1.1, ?_⟩) (fun c2 => ⟨_, rfl, q.1.1, ?_⟩)
        · have c' : isAdd (cs i) = true := by rw [c2]; rfl
          (first | refine ⟨fun _ => ?_, fun n_ => absurd (show ¬ (1 : Int32) = 0 by decide) n_⟩ | refine ⟨fun n_ => absurd (show ¬ (1 : Int32) = 0 by decide) n_, fun _ => ?_⟩ | refine ⟨fun y_ => absurd y_ (show ¬ (1 : Int32) = 0 by decide), fun _ => ?_⟩ | refine ⟨fun _ => ?_, fun y_ => absurd y_ (show ¬ (1 : Int32) = 0 by decide)⟩)
          exact step c' h4 w (lt c')
        · (first | refine ⟨fun _ => ?_, fun n_ => absurd (show (0 : Int32) = 0 by rfl) n_⟩ | refine ⟨fun n_ => absurd (show (0 : Int32) = 0 by rfl) n_, fun _ => ?_⟩ | refine ⟨fun y_ => absurd y_ (show (0 : Int32) = 0 by rfl), fun _ => ?_⟩ | refine ⟨fun _ => ?_, fun y_ => absurd y_ (show (0 : Int32) = 0 by rfl)⟩)
          have c' : ¬ isAdd (cs i) = true := by
            unfold isAdd
            simp [c, c2]
          unfold pCh at hq
          rw [if_neg c'] at hq
          exact hq h ⟨fun _ => q, fun z => absurd (show true = false from z) (by decide)⟩
  refine ⟨fun Q h i lv hi hl q hq => ?_, fun Q h p q hq => ?_⟩
  · refine T_X12_readSum hd q.1.1 _ ?_
    obtain ⟨e1, e2, e3⟩ := ok i lv hi hl
    refine hp.1 _ _ i lv hi hl q (fun h1 w => ⟨rfl, pst_Sh w, ?_⟩)
    unfold pSum0 pChain at hq
    by_cases c2 : (pTerm cs vs isV rec i lv).1 = true
    · rw [if_pos c2] at hq
      obtain ⟨e4, e5, e6⟩ := e3 c2
      have := t.1
      exact lS 401 Q h1 _ _ _ (by omega) e1 e6 (w.1 c2) hq
    · rw [if_neg c2] at hq
      exact lF Q h1 _ (w.2 (Bool.eq_false_iff.mpr c2)) (hq h1 w)
  · exact T_X12_readSum hd q.1.1 _ (hp.2 _ _ p q ⟨rfl, q.1.1, lF Q h p q hq⟩)
end RD
