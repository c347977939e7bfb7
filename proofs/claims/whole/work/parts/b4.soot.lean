/-! ===== soot on both sides ===== -/
section SO
variable {KX : ah_T → Prop} {RX WX SX : (Nat → Nat) → ah_T → Prop} {A : Nat → Nat} {N : Nd} {h g h1 : ah_T} {g0 sp n : Nat}
def cSo (A : Nat → Nat) (h : ah_T) : Prop := ah_i h 12 1 = nI 3 ∧ ah_i h 12 3 = nI (A 250) ∧ wfO A ∧ ∀ j, j < 3 * A 250 → ah_i h 13 j = nI (A (218 + j))
def mSo (A : Nat → Nat) (h : ah_T) : Prop := ah_i h 84 250 = nI (A 250) ∧ wfO A ∧ ∀ j, j < 3 * A 250 → ah_i h 84 (218 + j) = nI (A (218 + j))
theorem cSo_of (wf : WF A) (tn : Tn TXm A h 1 84 0) : cSo A h := by
  obtain ⟨_, _, _, _, _, ⟨q1, q2, q3, q4, q5, q6⟩, _⟩ := tn
  exact ⟨q2, q3, wf.2.2.2.2.2.1, fun j hj => (q6 j hj).1⟩
theorem mSo_of (wf : WF A) (tn : Tn TXm A h 1 84 0) : mSo A h := by
  obtain ⟨_, _, _, _, _, ⟨q1, q2, q3, q4, q5, q6⟩, _⟩ := tn
  refine ⟨?_, wf.2.2.2.2.2.1, fun j hj => ?_⟩
  · rw [Nat.zero_add] at q4; exact q4
  · have := (q6 j hj).2.1
    rw [Nat.zero_add] at this; exact this
theorem cSo_fr (e : ∀ a, (a = 12 ∨ a = 13) → ∀ j, ah_i g a j = ah_i h a j) (t : cSo A h) : cSo A g := ⟨by rw [e 12 (by omega)]; exact t.1, by rw [e 12 (by omega)]; exact t.2.1, t.2.2.1, fun j hj => by rw [e 13 (by omega)]; exact t.2.2.2 j hj⟩
theorem mSo_fr (e : ∀ j, ah_i g 84 j = ah_i h 84 j) (t : mSo A h) : mSo A g := ⟨by rw [e]; exact t.1, t.2.1, fun j hj => by rw [e]; exact t.2.2 j hj⟩
theorem so_get {Q : Option Value → ah_T → Prop} (hs : Sh h) (m : cSo A h) {l k : Nat} {x1 x2 : Int32} (e1 : x1 = nI l) (e2 : x2 = nI k) (hl : l < A 250) (hk : k < 3) (hq : Q (some (.int (nI (A (218 + 3 * l + k))))) h) : Mt mX7_get [.ref 12, .int x1, .int x2] h Q := by
  have w6 := m.2.2.1.1
  refine c_getW hs (t := 12) (n := A 250) (r := l) (k := k) (by omega) e1 e2 m.1 m.2.1 (by show 3 * A 250 ≤ 24; omega) hl hk ?_
  rw [m.2.2.2 (3 * l + k) (by omega), ← Nat.add_assoc]
  exact hq
theorem nO_ltI {L m : Nat} (hL : L ≤ 1000) (hm : m ≤ 1000) : nO L < nI m ↔ L ≤ m := by
  rcases Nat.eq_zero_or_pos L with y | y
  · rw [y, Int32.lt_iff_toInt_lt, nI_toInt (by omega)]
    have t0 : (nO 0).toInt = -1 := by decide
    rw [t0]
    omega
  · rw [show L = (L - 1) + 1 by omega, nO_s, nI_ltI (by omega) (by omega)]
    omega
/-- all soot ahead of a row is as it would be -/
noncomputable def soB (A : Nat → Nat) (N : Nd) : Nat → Bool
  | 0 => true
  | s + 1 => soB A N s && (litM A N (A (219 + 3 * s)) (A (218 + 3 * s)) == decide (A (220 + 3 * s) = 1))
theorem soB_t : ∀ s, soB A N s = true ↔ ∀ x, x < s → litM A N (A (219 + 3 * x)) (A (218 + 3 * x)) = decide (A (220 + 3 * x) = 1)
  | 0 => ⟨fun _ x y => absurd y (by omega), fun _ => rfl⟩
  | s + 1 => by
    show (soB A N s && _) = true ↔ _
    rw [Bool.and_eq_true, soB_t s, beq_iff_eq]
    constructor
    · rintro ⟨y1, y2⟩ x hx
      by_cases z : x = s
      · rw [z]; exact y2
      · exact y1 x (by omega)
    · exact fun y => ⟨fun x hx => y x (by omega), y s (by omega)⟩
/-- the model compares -/
theorem m_areSo {Q : Option Value → ah_T → Prop} (hs : Sh h) (nt : mNt A N 120 h) (m : mSo A h) (hn : A 246 ≤ N.n) (h10 : N.n ≤ 10) (hq : Q (some (.int (bI (soB A N (A 250))))) h) : Mt mX12_areSo [.ref 82] h Q := by
  have w8 := m.2.1.1
  have t250 : Int32.toNatClampNeg 250 = 250 := rfl
  have lp : ∀ (q x : Nat), x + q = A 250 → soB A N x = true → Wp mX12_areSo Q 0 0 2 [some (.ref 82), some (.int (nI x))] [] h := by
    intro q
    induction q with
    | zero =>
      intro x hx y
      have e9 : x = A 250 := by omega
      subst e9
      refine T_X12_areSo_2 hs _ ?_
      rw [t250, m.1]
      (first | refine ⟨fun _ => ?_, fun n_ => absurd (show nI (A 250) ≤ nI (A 250) from nI_le (Nat.le_refl _) (by omega)) n_⟩ | refine ⟨fun n_ => absurd (show nI (A 250) ≤ nI (A 250) from nI_le (Nat.le_refl _) (by omega)) n_, fun _ => ?_⟩ | refine ⟨fun y_ => absurd y_ (show nI (A 250) ≤ nI (A 250) from nI_le (Nat.le_refl _) (by omega)), fun _ => ?_⟩ | refine ⟨fun _ => ?_, fun y_ => absurd y_ (show nI (A 250) ≤ nI (A 250) from nI_le (Nat.le_refl _) (by omega))⟩)
      rw [y] at hq
      exact hq
    | succ q ih =>
      intro x hx y
      have hx2 : x < A 250 := by omega
      obtain ⟨w1, w2, w3⟩ := m.2.1.2 x hx2
      have e3 : (218 : Int32) + 3 * nI x = nI (218 + 3 * x) := by rw [show (218 : Int32) = nI 218 from rfl, show (3 : Int32) = nI 3 from rfl, nI_mul, nI_add]
      have e31 : nI (218 + 3 * x) + 1 = nI (219 + 3 * x) := by rw [nI_1, show 218 + 3 * x + 1 = 219 + 3 * x by omega]
      have e32 : nI (218 + 3 * x) + 2 = nI (220 + 3 * x) := by rw [show (2 : Int32) = nI 2 from rfl, nI_add, show 218 + 3 * x + 2 = 220 + 3 * x by omega]
      have i0 : ah_i h 84 (218 + 3 * x) = nI (A (218 + 3 * x)) := m.2.2 (3 * x) (by omega)
      have i1 : ah_i h 84 (219 + 3 * x) = nI (A (219 + 3 * x)) := by have := m.2.2 (3 * x + 1) (by omega); rw [show 218 + (3 * x + 1) = 219 + 3 * x by omega] at this; exact this
      have i2 : ah_i h 84 (220 + 3 * x) = nI (A (220 + 3 * x)) := by have := m.2.2 (3 * x + 2) (by omega); rw [show 218 + (3 * x + 2) = 220 + 3 * x by omega] at this; exact this
      have d10 : (10 : Int32) * nI (A (219 + 3 * x)) + nI (A (218 + 3 * x)) = nI (10 * A (219 + 3 * x) + A (218 + 3 * x)) := by rw [n_10, nI_mul, nI_add]
      refine T_X12_areSo_2 hs _ ?_
      rw [t250, m.1]
      (first | refine ⟨fun _ => ?_, fun n_ => absurd (show ¬ nI (A 250) ≤ nI x from nI_ge (by omega) (by omega)) n_⟩ | refine ⟨fun n_ => absurd (show ¬ nI (A 250) ≤ nI x from nI_ge (by omega) (by omega)) n_, fun _ => ?_⟩ | refine ⟨fun y_ => absurd y_ (show ¬ nI (A 250) ≤ nI x from nI_ge (by omega) (by omega)), fun _ => ?_⟩ | refine ⟨fun _ => ?_, fun y_ => absurd y_ (show ¬ nI (A 250) ≤ nI x from nI_ge (by omega) (by omega))⟩)
      rw [e3, e31, e32, nI_clamp (show 218 + 3 * x < 2 ^ 31 by omega), nI_clamp (show 219 + 3 * x < 2 ^ 31 by omega), nI_clamp (show 220 + 3 * x < 2 ^ 31 by omega), i0, i1, i2, d10, nI_clamp (show 10 * A (219 + 3 * x) + A (218 + 3 * x) < 2 ^ 31 by omega), (nt _ w2 _ (by omega)).1, sh_n hs 84 5860 (by decide) (by decide) rfl, sh_n hs 109 1200 (by decide) (by decide) rfl, nI_1]
      have nx := ih (x + 1) (by omega)
      have sN : soB A N (x + 1) = (soB A N x && (litM A N (A (219 + 3 * x)) (A (218 + 3 * x)) == decide (A (220 + 3 * x) = 1))) := rfl
      rw [sN, y, Bool.true_and, beq_iff_eq] at nx
      have no : litM A N (A (219 + 3 * x)) (A (218 + 3 * x)) ≠ decide (A (220 + 3 * x) = 1) → Q (some (.int 0)) h := by
        intro z
        have e : soB A N (A 250) = false := by
          cases e : soB A N (A 250)
          · rfl
          · exact absurd ((soB_t _).mp e x hx2) z
        rw [e] at hq
        exact hq
      have n1 : nI (A (220 + 3 * x)) = 1 ↔ A (220 + 3 * x) = 1 := by
        rw [show (1 : Int32) = nI 1 from rfl, nI_eq (by omega) (by omega)]
      refine ⟨(vp_nI (by omega)).mpr (by omega), (vp_nI (by omega)).mpr (by omega), (vp_nI (by omega)).mpr (by omega), (vp_nI (by omega)).mpr (by omega), fun z => ?_, fun z => ?_⟩
      · have z1 : ¬ A (220 + 3 * x) = 1 := fun w => z (n1.mpr w)
        rw [decide_eq_false z1] at nx no
        cases e : litM A N (A (219 + 3 * x)) (A (218 + 3 * x))
        · exact ⟨fun _ => nx e, fun w => absurd rfl w⟩
        · rw [e] at no
          exact ⟨fun w => absurd w (by decide), fun _ => no (by decide)⟩
      · rw [decide_eq_true (n1.mp z)] at nx no
        cases e : litM A N (A (219 + 3 * x)) (A (218 + 3 * x))
        · rw [e] at no
          exact ⟨fun w => absurd w (by decide), fun _ => no (by decide)⟩
        · exact ⟨fun _ => nx e, fun w => absurd rfl w⟩
  exact T_X12_areSo hs (lp (A 250) 0 (by omega) rfl)
/-- soot by minutes, as bits -/
def gsB (A : Nat → Nat) (s c : Nat) (b : Bool) (u : ah_T) : Prop := ∀ m i, m < 120 → i < 32 → (bt (ah_i u c m) i = true ↔ ∃ x, x < s ∧ A (219 + 3 * x) = m ∧ A (218 + 3 * x) = i ∧ decide (A (220 + 3 * x) = 1) = b)
def gsO (A : Nat → Nat) (s : Nat) (u : ah_T) : Prop := gsB A s 72 true u ∧ gsB A s 73 false u ∧ ∃ L, ah_i u 62 17 = nO L ∧ L ≤ 120 ∧ ∀ x, x < s → A (219 + 3 * x) < L
theorem gsB_add {s c : Nat} {b : Bool} (t : gsB A s c b h) (hl : A (218 + 3 * s) < 32) (hb : decide (A (220 + 3 * s) = 1) = b) (e : ∀ m, ah_i g c m = if m = A (219 + 3 * s) then ah_i h c m ||| ((1 : Int32) <<< (nI (A (218 + 3 * s)) &&& 31)) else ah_i h c m) : gsB A (s + 1) c b g := by
  intro m i hm hi
  rw [e]
  by_cases z : m = A (219 + 3 * s)
  · rw [if_pos z, b_or, b_1sh hl hi, Bool.or_eq_true, decide_eq_true_eq, t m i hm hi]
    constructor
    · rintro (⟨x, y1, y2⟩ | y)
      · exact ⟨x, by omega, y2⟩
      · exact ⟨s, by omega, z.symm, y.symm, hb⟩
    · rintro ⟨x, y1, y2, y3, y4⟩
      by_cases w : x = s
      · subst w; exact .inr y3.symm
      · exact .inl ⟨x, by omega, y2, y3, y4⟩
  · rw [if_neg z, t m i hm hi]
    constructor
    · rintro ⟨x, y1, y2⟩; exact ⟨x, by omega, y2⟩
    · rintro ⟨x, y1, y2, y3, y4⟩
      by_cases w : x = s
      · subst w; exact absurd y2.symm z
      · exact ⟨x, by omega, y2, y3, y4⟩
theorem gsB_keep {s c : Nat} {b : Bool} (t : gsB A s c b h) (hb : decide (A (220 + 3 * s) = 1) ≠ b) (e : ∀ m, ah_i g c m = ah_i h c m) : gsB A (s + 1) c b g := by
  intro m i hm hi
  rw [e, t m i hm hi]
  constructor
  · rintro ⟨x, y1, y2⟩; exact ⟨x, by omega, y2⟩
  · rintro ⟨x, y1, y2, y3, y4⟩
    by_cases w : x = s
    · subst w; exact absurd y4 hb
    · exact ⟨x, by omega, y2, y3, y4⟩
theorem gsO_fr (e : ∀ a, (a = 72 ∨ a = 73) → ∀ j, ah_i g a j = ah_i h a j) (e2 : ah_i g 62 17 = ah_i h 62 17) {s : Nat} (t : gsO A s h) : gsO A s g := by
  obtain ⟨t1, t2, L, t3, t4⟩ := t
  exact ⟨fun m i hm hi => by rw [e 72 (by omega)]; exact t1 m i hm hi, fun m i hm hi => by rw [e 73 (by omega)]; exact t2 m i hm hi, L, by rw [e2]; exact t3, t4⟩
def Pso (a : Nat) : Prop := a = 62 ∨ a = 72 ∨ a = 73
theorem mx_nO {L m : Nat} (hL : L ≤ 120) (hm : m < 120) : (if nO L < nI m then nI m else nO L) = nO (if L ≤ m then m + 1 else L) := by
  by_cases z : L ≤ m
  · rw [if_pos ((nO_ltI (by omega) (by omega)).mpr z), if_pos z, nO_s]
  · rw [if_neg (fun y => z ((nO_ltI (by omega) (by omega)).mp y)), if_neg z]
def gsF (h g : ah_T) : Prop := Sh g ∧ ah_x g = ah_x h ∧ ∀ a, ¬ Pso a → eqc h g a
theorem gsF_s {a j : Nat} {x : Int32} (hp : Pso a) (p : gsF h g) : gsF h (ah_si g a j x) := ⟨sh_si p.1, by rw [ah_x_si, p.2.1], fun b m => eqc_si (p.2.2 b m) (fun z => m (by rw [z]; exact hp))⟩
theorem gsF_gr {P : Nat → Prop} (hp : ∀ a, Pso a → P a) (f : gsF h g) : grF P h g := ⟨f.1, f.2.1, fun a _ m => f.2.2 a (fun y => m (hp a y)), wB_of (f.2.2 27 (by unfold Pso; omega)).1⟩
theorem c_gather {Q : Option Value → ah_T → Prop} (hs : Sh h) (c : cSo A h) (w10 : A 246 ≤ 10) (hq : ∀ g, gsF h g → (∀ j, j ≠ 17 → ah_i g 62 j = ah_i h 62 j) → gsO A (A 250) g → Q none g) : Mt mX1_gatherSoot [.ref 62] h Q := by
  have w8 := c.2.2.1.1
  have n72 : ah_n h 72 = 120 := sh_n hs 72 120 (by decide) (by decide) rfl
  refine T_X1_gatherSoot hs (c_fillA hs 72 0 (sh_k hs 72 14 (by decide) rfl) (by rw [n72]; decide) ⟨rfl, sh_fl hs, ?_⟩)
  rw [n72]
  have n73 : ah_n (ab_fl h 72 0 120 0) 73 = 120 := sh_n (sh_fl hs) 73 120 (by decide) (by decide) rfl
  refine c_fillA (sh_fl hs) 73 0 (sh_k (sh_fl hs) 73 14 (by decide) rfl) (by rw [n73]; decide) ⟨rfl, sh_fl (sh_fl hs), ?_⟩
  rw [n73]
  intro h7 q7
  have s7 : Sh h7 := by rw [q7]; exact sh_si (sh_fl (sh_fl hs))
  have lp : ∀ (q x : Nat) (u : ah_T), x + q = A 250 → gsF h u → (∀ j, j ≠ 17 → ah_i u 62 j = ah_i h 62 j) → gsO A x u → Wp mX1_gatherSoot Q 0 0 23 [some (.ref 62), some (.int (nI x)), none, none] [] u := by
    intro q
    induction q with
    | zero =>
      intro x u hx f k o
      have e9 : x = A 250 := by omega
      subst e9
      refine T_X1_gatherSoot_23 f.1 _ ?_
      rw [(f.2.2 12 (by unfold Pso; omega)).1, c.2.1]
      (first | refine ⟨fun _ => ?_, fun n_ => absurd (show nI (A 250) ≤ nI (A 250) from nI_le (Nat.le_refl _) (by omega)) n_⟩ | refine ⟨fun n_ => absurd (show nI (A 250) ≤ nI (A 250) from nI_le (Nat.le_refl _) (by omega)) n_, fun _ => ?_⟩ | refine ⟨fun y_ => absurd y_ (show nI (A 250) ≤ nI (A 250) from nI_le (Nat.le_refl _) (by omega)), fun _ => ?_⟩ | refine ⟨fun _ => ?_, fun y_ => absurd y_ (show nI (A 250) ≤ nI (A 250) from nI_le (Nat.le_refl _) (by omega))⟩)
      exact hq u f k o
    | succ q ih =>
      intro x u hx f k o
      have hx2 : x < A 250 := by omega
      obtain ⟨w1, w2, w3⟩ := c.2.2.1.2 x hx2
      have cu : cSo A u := cSo_fr (fun a ha => (f.2.2 a (by unfold Pso; omega)).1) c
      obtain ⟨o1, o2, L, o3, o4, o5⟩ := o
      refine T_X1_gatherSoot_23 f.1 _ ?_
      rw [cu.2.1]
      (first | refine ⟨fun _ => ?_, fun n_ => absurd (show ¬ nI (A 250) ≤ nI x from nI_ge (by omega) (by omega)) n_⟩ | refine ⟨fun n_ => absurd (show ¬ nI (A 250) ≤ nI x from nI_ge (by omega) (by omega)) n_, fun _ => ?_⟩ | refine ⟨fun y_ => absurd y_ (show ¬ nI (A 250) ≤ nI x from nI_ge (by omega) (by omega)), fun _ => ?_⟩ | refine ⟨fun _ => ?_, fun y_ => absurd y_ (show ¬ nI (A 250) ≤ nI x from nI_ge (by omega) (by omega))⟩)
      refine so_get f.1 cu rfl (k := 1) rfl hx2 (by omega) ⟨_, rfl, f.1, ?_⟩
      refine so_get f.1 cu rfl (k := 0) rfl hx2 (by omega) ⟨_, rfl, f.1, ?_⟩
      refine so_get f.1 cu rfl (k := 2) rfl hx2 (by omega) ⟨_, rfl, f.1, ?_⟩
      rw [show 218 + 3 * x + 1 = 219 + 3 * x by omega, show 218 + 3 * x + 2 = 220 + 3 * x by omega, Nat.add_zero, nI_1, nI_clamp (show A (219 + 3 * x) < 2 ^ 31 by omega), sh_n f.1 73 120 (by decide) (by decide) rfl, sh_n f.1 72 120 (by decide) (by decide) rfl]
      have vx : vp_in (nI (A (219 + 3 * x))) 120 := (vp_nI (by omega)).mpr w2
      have n1 : nI (A (220 + 3 * x)) = 1 ↔ A (220 + 3 * x) = 1 := by
        rw [show (1 : Int32) = nI 1 from rfl, nI_eq (by omega) (by omega)]
      have lst : ∃ L', (if nO L < nI (A (219 + 3 * x)) then nI (A (219 + 3 * x)) else nO L) = nO L' ∧ L' ≤ 120 ∧ ∀ y, y < x + 1 → A (219 + 3 * y) < L' := by
        refine ⟨_, mx_nO o4 w2, by split <;> omega, fun y hy => ?_⟩
        by_cases z : y = x
        · subst z; split <;> omega
        · have := o5 y (by omega)
          split <;> omega
      refine ⟨fun z => ⟨vx, vx, ?_⟩, fun z => ⟨vx, vx, ?_⟩⟩
      · rintro h23 rfl h26 rfl
        refine ih (x + 1) _ (by omega) (gsF_s (.inl rfl) (gsF_s (.inr (.inr rfl)) f)) (fun j hj => by rw [ah_i_sn (by omega), ah_i_sn (by omega)]; exact k j hj) ⟨gsB_keep o1 (by rw [decide_eq_false (fun w => z (n1.mpr w))]; decide) (fun m => by rw [ah_i_sn (by omega), ah_i_sn (by omega)]), gsB_add o2 (by omega) (decide_eq_false (fun w => z (n1.mpr w))) (fun m => ?_), ?_⟩
        · rw [ah_i_sn (by omega)]
          by_cases y : m = A (219 + 3 * x)
          · rw [if_pos y, y, ah_i_ss]
          · rw [if_neg y, ah_i_sn (by omega)]
        · rw [ah_i_ss, ah_i_sn (by omega), o3]
          exact lst
      · rintro h31 rfl h34 rfl
        refine ih (x + 1) _ (by omega) (gsF_s (.inl rfl) (gsF_s (.inr (.inl rfl)) f)) (fun j hj => by rw [ah_i_sn (by omega), ah_i_sn (by omega)]; exact k j hj) ⟨gsB_add o1 (by omega) (decide_eq_true (n1.mp z)) (fun m => ?_), gsB_keep o2 (by rw [decide_eq_true (n1.mp z)]; decide) (fun m => by rw [ah_i_sn (by omega), ah_i_sn (by omega)]), ?_⟩
        · rw [ah_i_sn (by omega)]
          by_cases y : m = A (219 + 3 * x)
          · rw [if_pos y, y, ah_i_ss]
          · rw [if_neg y, ah_i_sn (by omega)]
        · rw [ah_i_ss, ah_i_sn (by omega), o3]
          exact lst
  have e7 : ∀ a, a ≠ 62 → a ≠ 72 → a ≠ 73 → eqc h h7 a := fun a n1 n2 n3 => by rw [q7]; exact eqc_si (eqc_fl (eqc_fl eqc_rfl n2) n3) n1
  refine lp (A 250) 0 h7 (by omega) ⟨s7, by rw [q7, ah_x_si, x_fl, x_fl], fun a m => e7 a (fun y => m (.inl y)) (fun y => m (.inr (.inl y))) (fun y => m (.inr (.inr y)))⟩ (fun j hj => by rw [q7, ah_i_sn (by omega), ah_i_fl, if_neg (by omega), ah_i_fl, if_neg (by omega)]) ⟨fun m i hm hi => ?_, fun m i hm hi => ?_, 0, by rw [q7, ah_i_ss]; rfl, by omega, fun x y => absurd y (by omega)⟩
  · rw [q7, ah_i_sn (by omega), ah_i_fl, if_neg (by omega), ah_i_fl, if_pos (by omega), b_0]
    exact ⟨fun y => absurd y (by decide), fun ⟨x, y, _⟩ => absurd y (by omega)⟩
  · rw [q7, ah_i_sn (by omega), ah_i_fl, if_pos (by omega), b_0]
    exact ⟨fun y => absurd y (by decide), fun ⟨x, y, _⟩ => absurd y (by omega)⟩
/-- the class compares -/
theorem c_isSoot {Q : Option Value → ah_T → Prop} (hs : Sh h) (t : cTw A h) (tm : tmN g0 A h) (d : cND A N sp h) (w : wfO A) (hn : A 246 ≤ N.n) (gs : gsO A (A 250) h) (hq : ∀ g, cyF h g → cTw A g → tmN g0 A g → cND A N sp g → Q (some (.int (bI (soB A N (A 250))))) g) : Mt mX1_isSootExplained [.ref 62] h Q := by
  obtain ⟨gl, gd, L, eL, hL, gL⟩ := gs
  have n10 : N.n ≤ 10 := d.1.1
  refine T_X1_isSootExplained hs ?_
  refine c_begin hs t tm d (fun h1 c1 rn1 _ => ⟨rfl, c1.1, ?_⟩)
  have lp : ∀ (q m : Nat) (u : ah_T), m + q = 120 → cyF h u → cRn g0 A N sp m u → (∀ x, x < A 250 → A (219 + 3 * x) < m → litM A N (A (219 + 3 * x)) (A (218 + 3 * x)) = decide (A (220 + 3 * x) = 1)) → Wp mX1_isSootExplained Q 0 0 9 [some (.ref 62), some (.int (nI m)), none] [] u := by
    intro q
    induction q with
    | zero =>
      intro m u hm fu rn ok
      have e9 : m = 120 := by omega
      subst e9
      obtain ⟨tv, tmv, dv⟩ := cRn_c rn
      have fin := hq u fu tv tmv dv
      rw [(soB_t (A 250)).mpr (fun x hx => ok x hx (w.2 x hx).2.1)] at fin
      refine T_X1_isSootExplained_9 fu.1 _ ?_
      exact ⟨fun _ => fin, fun _ => ⟨fun _ => fin, fun y => absurd (show 120 ≤ nI 120 from nI_le (a := 120) (by omega) (by omega)) y⟩⟩
    | succ q ih =>
      intro m u hm fu rn ok
      obtain ⟨tv, tmv, dv⟩ := cRn_c rn
      refine T_X1_isSootExplained_9 fu.1 _ ?_
      rw [(fu.2.2.1 62 (by omega)).1, eL, nO_ltI (by omega) (by omega)]
      refine ⟨fun z => ?_, fun z => ?_⟩
      · have fin := hq u fu tv tmv dv
        rw [(soB_t (A 250)).mpr (fun x hx => ok x hx (by have := gL x hx; omega))] at fin
        exact fin
      (first | refine ⟨fun _ => ?_, fun n_ => absurd (show ¬ 120 ≤ nI m from nI_ge (b := 120) (by omega) (by omega)) n_⟩ | refine ⟨fun n_ => absurd (show ¬ 120 ≤ nI m from nI_ge (b := 120) (by omega) (by omega)) n_, fun _ => ?_⟩ | refine ⟨fun y_ => absurd y_ (show ¬ 120 ≤ nI m from nI_ge (b := 120) (by omega) (by omega)), fun _ => ?_⟩ | refine ⟨fun _ => ?_, fun y_ => absurd y_ (show ¬ 120 ≤ nI m from nI_ge (b := 120) (by omega) (by omega))⟩)
      refine c_run1 fu.1 rn rfl (by omega) (fun v r f1 k1 rn1 hr h7 ho => ⟨_, rfl, f1.1, ?_⟩)
      have fv := cyF_t fu f1
      obtain ⟨t2, tm2, d2⟩ := cRn_c rn1
      rw [nI_1, nI_clamp (show m < 2 ^ 31 by omega), sh_n f1.1 72 120 (by decide) (by decide) rfl, sh_n f1.1 73 120 (by decide) (by decide) rfl, (fv.2.2.1 72 (by omega)).1, (fv.2.2.1 73 (by omega)).1]
      have vm : vp_in (nI m) 120 := (vp_nI (by omega)).mpr (by omega)
      refine ⟨vm, vm, fun z => ?_, fun z => ?_⟩
      · refine ih (m + 1) v (by omega) fv rn1 (fun x hx hm2 => ?_)
        by_cases y : A (219 + 3 * x) = m
        · obtain ⟨w1, w2, w3⟩ := w.2 x hx
          have zi : bt ((ah_i h 72 m &&& (r ^^^ (-1))) ||| (ah_i h 73 m &&& r)) (A (218 + 3 * x)) = false := by rw [z, b_0]
          rw [b_or, b_and, b_and, b_not _ (by omega)] at zi
          have hl := hr (A (218 + 3 * x)) (by omega)
          rw [y]
          by_cases one : A (220 + 3 * x) = 1
          · rw [(gl m (A (218 + 3 * x)) (by omega) (by omega)).mpr ⟨x, hx, y, rfl, decide_eq_true one⟩] at zi
            rw [decide_eq_true one]
            cases e : bt r (A (218 + 3 * x))
            · rw [e] at zi; simp at zi
            · exact (hl.mp e).2
          · rw [(gd m (A (218 + 3 * x)) (by omega) (by omega)).mpr ⟨x, hx, y, rfl, decide_eq_false one⟩] at zi
            rw [decide_eq_false one]
            cases e : litM A N m (A (218 + 3 * x))
            · rfl
            · rw [hl.mpr ⟨by omega, e⟩] at zi; simp at zi
        · exact ok x hx (by omega)
      · have fin := hq v fv t2 tm2 d2
        have e : soB A N (A 250) = false := by
          cases e : soB A N (A 250)
          · rfl
          · refine absurd (b_ext (fun i hi => ?_)) z
            rw [b_0, b_or, b_and, b_and, b_not _ hi]
            have all := (soB_t _).mp e
            cases e1 : bt (ah_i h 72 m) i
            · cases e2 : bt (ah_i h 73 m) i
              · rfl
              · obtain ⟨x, x1, x2, x3, x4⟩ := (gd m i (by omega) hi).mp e2
                have := all x x1
                rw [x2, x3, x4] at this
                cases e3 : bt r i
                · rfl
                · rw [((hr i hi).mp e3).2] at this; exact absurd this (by decide)
            · obtain ⟨x, x1, x2, x3, x4⟩ := (gl m i (by omega) hi).mp e1
              have := all x x1
              rw [x2, x3, x4] at this
              have := (w.2 x x1).1
              have e3 : bt r i = true := (hr i hi).mpr ⟨by omega, by assumption⟩
              rw [e3]
              cases e2 : bt (ah_i h 73 m) i
              · rfl
              · obtain ⟨x', x1', x2', x3', x4'⟩ := (gd m i (by omega) hi).mp e2
                have t' := all x' x1'
                rw [x2', x3', x4'] at t'
                have t'' := ((hr i hi).mp e3).2
                rw [t'] at t''
                exact absurd t'' (by decide)
        rw [e] at fin
        exact fin
  exact lp 120 0 h1 (by omega) (cyF_e c1) rn1 (fun x _ y => absurd y (by omega))
end SO
