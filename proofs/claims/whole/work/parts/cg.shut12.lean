/-! ===== shutters: the model finds them; the relation ===== -/
def tMs (A : Nat → Nat) (h : ah_T) (st : Nat × Nat) (u : ah_T) : Prop := tsM A h u ∧ ah_i u 82 49 = -1 ∧ mkO st u ∧ st.1 ≤ 1048576
section SR
variable {KX : ah_T → Prop} {RX WX SX : (Nat → Nat) → ah_T → Prop} {A B : Nat → Nat} {h g u : ah_T} {S w m l o k v a b c n g0 x s t : Nat} {N : Nd} {st : Nat × Nat}
theorem shX_p : SXp shX := by
  refine ⟨fun A h h' e p => ?_, fun A h ne y => absurd y ne⟩
  unfold shX mkO at p ⊢
  rw [e 62 (by omega), e 1 (by omega), e 60 (by omega), e 61 (by omega)]
  exact p
theorem m_tS {K : ah_T → Prop} {x1 : Int32} (wf : wfW A) (t : tMs A h st u) (e1 : x1 = nI S) (hS : S < 1048576) (hk : ∀ g, tMs A h (foS (gS A) [S] st) g → K g) : Mt mX12_triesShut [.ref 82, .int x1] u (ab_qv fun g => Sh g ∧ K g) := by
  obtain ⟨⟨t1, t2, t3⟩, t4, t5, t6⟩ := t
  refine m_triesShut t1.1 t3 wf e1 t5 (by omega) (fun g ⟨f1, f2, f3⟩ o k => ⟨rfl, f1.1, hk g ⟨⟨mfF_t t1 f1, by rw [f2, t2], f3⟩, ?_, k, ?_⟩⟩)
  · rcases o with y | y
    · exact y
    · rw [y.1]; exact t4
  · rcases foS_in (g := gS A) [S] st with y | ⟨x, hx, y⟩
    · rw [y]; exact t6
    · rw [y, List.mem_singleton.mp hx]; omega
theorem nO_z (h : x < 2 ^ 31) : nO x = -1 ↔ x = 0 := by
  constructor
  · intro y
    have := congrArg (· + 1) y
    simp only [nO_1] at this
    exact (nI_eq (b := 0) (by omega) (by omega)).mp this
  · intro y; rw [y]; rfl
theorem nO_e0 (h : x < 2 ^ 31) : nO x = 0 ↔ x = 1 := by
  constructor
  · intro y
    have := congrArg (· + 1) y
    simp only [nO_1] at this
    exact (nI_eq (b := 1) (by omega) (by omega)).mp this
  · intro y; rw [y]; rfl
theorem cm_s : cmL (s + 1) (n + 1) = cmL (s + 1) n ++ (cmL s n).map (fun x => 2 ^ n + x) := by
  conv => lhs; unfold cmL
theorem cm_1 : cmL 1 (n + 1) = cmL 1 n ++ [2 ^ n] := by
  rw [cm_s (s := 0)]
  have e : cmL 0 n = [0] := by unfold cmL; rfl
  rw [e]; rfl
theorem p2a {a b : Nat} (h : a < b) : 2 ^ a < 2 ^ b := Nat.pow_lt_pow_right (by decide) h
theorem p2s (h : a < 20) : 2 ^ (a + 1) ≤ 1048576 := Nat.pow_le_pow_right (n := 2) (by decide) (show a + 1 ≤ 20 by omega)
theorem m_findsShutters {Q : Option Value → ah_T → Prop} (hs : Sh h) (q : mQs A h) (wf : wfW A) (k : shX A h) (hq : ∀ g, mfF h g → mQs A g → mkO (shR (gS A) (A 245) 3) g → ah_i g 82 62 = ah_i g 82 1 → (g = h ∨ ah_i g 82 49 = -1) → Q none g) : Mt mX12_findsShutters [.ref 82] h Q := by
  have h20 := wf.1
  have q' := q
  obtain ⟨q1, q2, q3, q4⟩ := q'
  refine T_X12_findsShutters hs ⟨fun _ => ?_, fun y => hq h (mfF_r hs) q (k y) y (.inl rfl)⟩
  rintro h2 e2 h5 e5
  obtain ⟨n, en⟩ : ∃ n, n = A 245 := ⟨_, rfl⟩
  have s2 : Sh h2 := by rw [e2]; exact sh_si hs
  have s5 : Sh h5 := by rw [e5]; exact sh_si s2
  have f5 : mfF h h5 := by rw [e5]; refine mfF_s (by omega) ?_; rw [e2]; exact mfF_s (by omega) (mfF_r hs)
  have i5 : ∀ j, j ≠ 60 → j ≠ 61 → ah_i h5 82 j = ah_i h 82 j := fun j n1 n2 => by rw [e5, ah_i_sn (by omega), e2, ah_i_sn (by omega)]
  have a5 : ∀ a, a ≠ 82 → ∀ j, ah_i h5 a j = ah_i h a j := fun a n1 j => by rw [e5, ah_i_sn (by omega), e2, ah_i_sn (by omega)]
  have q5 : mQs A h5 := ⟨mLw_fr (a5 84 (by decide)) q1, mKn_e (fun a ha => a5 a (by omega)) (i5 29 (by decide) (by decide)) (i5 1 (by decide) (by decide)) q2, mTw_fr (a5 84 (by decide)) q3, mSw_fr (a5 84 (by decide)) q4⟩
  have k5 : mkO (0, 0) h5 := ⟨by rw [e5, ah_i_sn (by omega), e2, ah_i_ss]; rfl, by rw [e5, ah_i_ss]; rfl⟩
  have e245 : ah_i h5 84 (Int32.toNatClampNeg 245) = nI n := by
    rw [a5 84 (by decide), en]; exact q3.1.1
  -- the end
  have fin : ∀ u st, tMs A h st u → st = shR (gS A) (A 245) 3 → ∀ z, z = ah_si u 82 62 (ah_i u 82 1) → Q none z := by
    rintro u st ⟨⟨t1, t2, t3⟩, t4, t5, t6⟩ est z ez
    have i6 : ∀ j, j ≠ 62 → ah_i z 82 j = ah_i u 82 j := fun j n1 => by rw [ez, ah_i_sn (by omega)]
    have a6 : ∀ a, a ≠ 82 → ∀ j, ah_i z a j = ah_i u a j := fun a n1 j => by rw [ez, ah_i_sn (by omega)]
    refine hq z (by rw [ez]; exact mfF_s (by omega) t1) ⟨mLw_fr (a6 84 (by decide)) t3.1, mKn_e (fun a ha => a6 a (by omega)) (i6 29 (by decide)) (i6 1 (by decide)) t3.2.1, mTw_fr (a6 84 (by decide)) t3.2.2.1, mSw_fr (a6 84 (by decide)) t3.2.2.2⟩ ?_ ?_ (.inr (by rw [i6 49 (by decide)]; exact t4))
    · rw [← est]
      exact ⟨by rw [i6 60 (by decide)]; exact t5.1, by rw [i6 61 (by decide)]; exact t5.2⟩
    · rw [i6 1 (by decide), ez, ah_i_ss]
  have i60 : ∀ {u st}, tMs A h st u → (ah_i u 82 60 = -1 ↔ st.1 = 0) ∧ (ah_i u 82 60 = 0 ↔ st.1 = 1) := fun {u st} t => by
    have := t.2.2.2
    rw [t.2.2.1.1]
    exact ⟨nO_z (by omega), nO_e0 (by omega)⟩
  have sft : ∀ i, i < 32 → (1 : Int32) <<< (nI i &&& 31) = nI (2 ^ i) := fun i hi => nI_1sh hi
  -- three
  have l133 : ∀ (b c : Nat), b < c → c < n → ∀ (st0 : Nat × Nat), (∀ g, tMs A h (foS (gS A) ((cmL 1 b).map (fun x => 2 ^ c + (2 ^ b + x))) st0) g → Wp mX12_findsShutters Q 0 0 125 [some (.ref 82), some (.int (nI n)), some (.int (nI c)), some (.int (nI (b + 1))), none] [] g) → ∀ (q a : Nat) (u : ah_T), a + q = b → tMs A h (foS (gS A) ((cmL 1 a).map (fun x => 2 ^ c + (2 ^ b + x))) st0) u → Wp mX12_findsShutters Q 0 0 133 [some (.ref 82), some (.int (nI n)), some (.int (nI c)), some (.int (nI b)), some (.int (nI a))] [] u := by
    intro b c hb hc st0 nx q
    induction q with
    | zero =>
      intro a u ha t
      have e9 : a = b := by omega
      subst e9
      refine T_X12_findsShutters_133 t.1.1.1 _ _ _ _ ?_
      (first | refine ⟨fun _ => ?_, fun n_ => absurd (show nI a ≤ nI a from nI_le (Nat.le_refl _) (by omega)) n_⟩ | refine ⟨fun n_ => absurd (show nI a ≤ nI a from nI_le (Nat.le_refl _) (by omega)) n_, fun _ => ?_⟩ | refine ⟨fun y_ => absurd y_ (show nI a ≤ nI a from nI_le (Nat.le_refl _) (by omega)), fun _ => ?_⟩ | refine ⟨fun _ => ?_, fun y_ => absurd y_ (show nI a ≤ nI a from nI_le (Nat.le_refl _) (by omega))⟩)
      rw [nI_1]
      exact nx u t
    | succ q ih =>
      intro a u ha t
      have ha2 : a < b := by omega
      refine T_X12_findsShutters_133 t.1.1.1 _ _ _ _ ?_
      (first | refine ⟨fun _ => ?_, fun n_ => absurd (show ¬ nI b ≤ nI a from nI_ge (by omega) (by omega)) n_⟩ | refine ⟨fun n_ => absurd (show ¬ nI b ≤ nI a from nI_ge (by omega) (by omega)) n_, fun _ => ?_⟩ | refine ⟨fun y_ => absurd y_ (show ¬ nI b ≤ nI a from nI_ge (by omega) (by omega)), fun _ => ?_⟩ | refine ⟨fun _ => ?_, fun y_ => absurd y_ (show ¬ nI b ≤ nI a from nI_ge (by omega) (by omega))⟩)
      have x1 := p2a ha2
      have x2 := p2a hb
      have x3 := p2s (show c < 20 by omega)
      have x4 := p2s (show b < 20 by omega)
      have x5 : 2 ^ (b + 1) ≤ 2 ^ c := Nat.pow_le_pow_right (by decide) hb
      rw [Nat.pow_succ] at x3 x4 x5
      rw [sft a (by omega), sft b (by omega), sft c (by omega), nI_or, or_p2 x1, nI_or, or_p2 (show 2 ^ a + 2 ^ b < 2 ^ c by omega), nI_1]
      refine m_tS wf t rfl (by omega) (fun g tg => ih (a + 1) g (by omega) ?_)
      rw [cm_1, List.map_append, foS_cat, List.map_singleton, show 2 ^ c + (2 ^ b + 2 ^ a) = 2 ^ a + 2 ^ b + 2 ^ c by omega]
      exact tg
  have l125 : ∀ (c : Nat), c < n → 2 ≤ c → ∀ (st0 : Nat × Nat), (∀ g, tMs A h (foS (gS A) ((cmL 2 c).map (fun x => 2 ^ c + x)) st0) g → Wp mX12_findsShutters Q 0 0 118 [some (.ref 82), some (.int (nI n)), some (.int (nI (c + 1))), none, none] [] g) → ∀ (q b : Nat) (u : ah_T), b + q = c → tMs A h (foS (gS A) ((cmL 2 b).map (fun x => 2 ^ c + x)) st0) u → Wp mX12_findsShutters Q 0 0 125 [some (.ref 82), some (.int (nI n)), some (.int (nI c)), some (.int (nI b)), none] [] u := by
    intro c hc hc2 st0 nx q
    induction q with
    | zero =>
      intro b u hb t
      have e9 : b = c := by omega
      subst e9
      refine T_X12_findsShutters_125 t.1.1.1 _ _ _ ?_
      (first | refine ⟨fun _ => ?_, fun n_ => absurd (show nI b ≤ nI b from nI_le (Nat.le_refl _) (by omega)) n_⟩ | refine ⟨fun n_ => absurd (show nI b ≤ nI b from nI_le (Nat.le_refl _) (by omega)) n_, fun _ => ?_⟩ | refine ⟨fun y_ => absurd y_ (show nI b ≤ nI b from nI_le (Nat.le_refl _) (by omega)), fun _ => ?_⟩ | refine ⟨fun _ => ?_, fun y_ => absurd y_ (show nI b ≤ nI b from nI_le (Nat.le_refl _) (by omega))⟩)
      rw [nI_1]
      exact nx u t
    | succ q ih =>
      intro b u hb t
      refine T_X12_findsShutters_125 t.1.1.1 _ _ _ ?_
      (first | refine ⟨fun _ => ?_, fun n_ => absurd (show ¬ nI c ≤ nI b from nI_ge (by omega) (by omega)) n_⟩ | refine ⟨fun n_ => absurd (show ¬ nI c ≤ nI b from nI_ge (by omega) (by omega)) n_, fun _ => ?_⟩ | refine ⟨fun y_ => absurd y_ (show ¬ nI c ≤ nI b from nI_ge (by omega) (by omega)), fun _ => ?_⟩ | refine ⟨fun _ => ?_, fun y_ => absurd y_ (show ¬ nI c ≤ nI b from nI_ge (by omega) (by omega))⟩)
      refine l133 b c (by omega) hc (foS (gS A) ((cmL 2 b).map (fun x => 2 ^ c + x)) st0) (fun g tg => ih (b + 1) g (by omega) ?_) b 0 u (by omega) t
      rw [cm_s (s := 1), List.map_append, foS_cat, List.map_map]
      exact tg
  have l118 : (shR (gS A) (A 245) 2).1 = 0 → ∀ (q c : Nat) (u : ah_T), c + q = max n 2 → 2 ≤ c → tMs A h (foS (gS A) (cmL 3 c) (0, 0)) u → Wp mX12_findsShutters Q 0 0 118 [some (.ref 82), some (.int (nI n)), some (.int (nI c)), none, none] [] u := by
    intro z2 q
    induction q with
    | zero =>
      intro c u hc hc2 t
      refine T_X12_findsShutters_118 t.1.1.1 _ _ ?_
      (first | refine ⟨fun _ => ?_, fun n_ => absurd (show nI n ≤ nI c from nI_le (by omega) (by omega)) n_⟩ | refine ⟨fun n_ => absurd (show nI n ≤ nI c from nI_le (by omega) (by omega)) n_, fun _ => ?_⟩ | refine ⟨fun y_ => absurd y_ (show nI n ≤ nI c from nI_le (by omega) (by omega)), fun _ => ?_⟩ | refine ⟨fun _ => ?_, fun y_ => absurd y_ (show nI n ≤ nI c from nI_le (by omega) (by omega))⟩)
      refine fin u _ t ?_
      rw [sh_s1 z2]
      by_cases y : n = c
      · rw [← y, en]
      · rw [cm_nil c 3 (by omega), cm_nil (A 245) 3 (by omega)]
    | succ q ih =>
      intro c u hc hc2 t
      have hcn : c < n := by omega
      refine T_X12_findsShutters_118 t.1.1.1 _ _ ?_
      (first | refine ⟨fun _ => ?_, fun n_ => absurd (show ¬ nI n ≤ nI c from nI_ge hcn (by omega)) n_⟩ | refine ⟨fun n_ => absurd (show ¬ nI n ≤ nI c from nI_ge hcn (by omega)) n_, fun _ => ?_⟩ | refine ⟨fun y_ => absurd y_ (show ¬ nI n ≤ nI c from nI_ge hcn (by omega)), fun _ => ?_⟩ | refine ⟨fun _ => ?_, fun y_ => absurd y_ (show ¬ nI n ≤ nI c from nI_ge hcn (by omega))⟩)
      refine l125 c hcn hc2 (foS (gS A) (cmL 3 c) (0, 0)) (fun g tg => ih (c + 1) g (by omega) (by omega) ?_) (c - 1) 1 u (by omega) t
      rw [cm_s (s := 2), foS_cat]
      exact tg
  -- two
  have l80 : ∀ (b : Nat), b < n → ∀ (st0 : Nat × Nat), (∀ g, tMs A h (foS (gS A) ((cmL 1 b).map (fun x => 2 ^ b + x)) st0) g → Wp mX12_findsShutters Q 0 0 73 [some (.ref 82), some (.int (nI n)), some (.int (nI (b + 1))), none, none] [] g) → ∀ (q a : Nat) (u : ah_T), a + q = b → tMs A h (foS (gS A) ((cmL 1 a).map (fun x => 2 ^ b + x)) st0) u → Wp mX12_findsShutters Q 0 0 80 [some (.ref 82), some (.int (nI n)), some (.int (nI b)), some (.int (nI a)), none] [] u := by
    intro b hb st0 nx q
    induction q with
    | zero =>
      intro a u ha t
      have e9 : a = b := by omega
      subst e9
      refine T_X12_findsShutters_80 t.1.1.1 _ _ _ ?_
      (first | refine ⟨fun _ => ?_, fun n_ => absurd (show nI a ≤ nI a from nI_le (Nat.le_refl _) (by omega)) n_⟩ | refine ⟨fun n_ => absurd (show nI a ≤ nI a from nI_le (Nat.le_refl _) (by omega)) n_, fun _ => ?_⟩ | refine ⟨fun y_ => absurd y_ (show nI a ≤ nI a from nI_le (Nat.le_refl _) (by omega)), fun _ => ?_⟩ | refine ⟨fun _ => ?_, fun y_ => absurd y_ (show nI a ≤ nI a from nI_le (Nat.le_refl _) (by omega))⟩)
      rw [nI_1]
      exact nx u t
    | succ q ih =>
      intro a u ha t
      have ha2 : a < b := by omega
      refine T_X12_findsShutters_80 t.1.1.1 _ _ _ ?_
      (first | refine ⟨fun _ => ?_, fun n_ => absurd (show ¬ nI b ≤ nI a from nI_ge (by omega) (by omega)) n_⟩ | refine ⟨fun n_ => absurd (show ¬ nI b ≤ nI a from nI_ge (by omega) (by omega)) n_, fun _ => ?_⟩ | refine ⟨fun y_ => absurd y_ (show ¬ nI b ≤ nI a from nI_ge (by omega) (by omega)), fun _ => ?_⟩ | refine ⟨fun _ => ?_, fun y_ => absurd y_ (show ¬ nI b ≤ nI a from nI_ge (by omega) (by omega))⟩)
      have x1 := p2a ha2
      have x4 := p2s (show b < 20 by omega)
      rw [Nat.pow_succ] at x4
      rw [sft a (by omega), sft b (by omega), nI_or, or_p2 x1, nI_1]
      refine m_tS wf t rfl (by omega) (fun g tg => ih (a + 1) g (by omega) ?_)
      rw [cm_1, List.map_append, foS_cat, List.map_singleton, Nat.add_comm]
      exact tg
  have l73 : (shR (gS A) (A 245) 1).1 = 0 → ∀ (q b : Nat) (u : ah_T), b + q = max n 1 → 1 ≤ b → tMs A h (foS (gS A) (cmL 2 b) (0, 0)) u → Wp mX12_findsShutters Q 0 0 73 [some (.ref 82), some (.int (nI n)), some (.int (nI b)), none, none] [] u := by
    intro z1 q
    induction q with
    | zero =>
      intro b u hb hb1 t
      have e2 : foS (gS A) (cmL 2 b) (0, 0) = shR (gS A) (A 245) 2 := by
        rw [sh_s1 z1]
        by_cases y : n = b
        · rw [← y, en]
        · rw [cm_nil b 2 (by omega), cm_nil (A 245) 2 (by omega)]
      rw [e2] at t
      refine T_X12_findsShutters_73 t.1.1.1 _ _ ?_
      (first | refine ⟨fun _ => ?_, fun n_ => absurd (show nI n ≤ nI b from nI_le (by omega) (by omega)) n_⟩ | refine ⟨fun n_ => absurd (show nI n ≤ nI b from nI_le (by omega) (by omega)) n_, fun _ => ?_⟩ | refine ⟨fun y_ => absurd y_ (show nI n ≤ nI b from nI_le (by omega) (by omega)), fun _ => ?_⟩ | refine ⟨fun _ => ?_, fun y_ => absurd y_ (show nI n ≤ nI b from nI_le (by omega) (by omega))⟩)
      rw [(i60 t).1]
      refine ⟨fun y => fin u _ t (sh_s2 y).symm, fun y => ?_⟩
      refine l118 y (max n 2 - 2) 2 u (by omega) (by omega) ?_
      rw [cm_nil 2 3 (by omega)]
      rw [sh_00 _ y] at t
      exact t
    | succ q ih =>
      intro b u hb hb1 t
      have hbn : b < n := by omega
      refine T_X12_findsShutters_73 t.1.1.1 _ _ ?_
      (first | refine ⟨fun _ => ?_, fun n_ => absurd (show ¬ nI n ≤ nI b from nI_ge hbn (by omega)) n_⟩ | refine ⟨fun n_ => absurd (show ¬ nI n ≤ nI b from nI_ge hbn (by omega)) n_, fun _ => ?_⟩ | refine ⟨fun y_ => absurd y_ (show ¬ nI n ≤ nI b from nI_ge hbn (by omega)), fun _ => ?_⟩ | refine ⟨fun _ => ?_, fun y_ => absurd y_ (show ¬ nI n ≤ nI b from nI_ge hbn (by omega))⟩)
      refine l80 b hbn (foS (gS A) (cmL 2 b) (0, 0)) (fun g tg => ih (b + 1) g (by omega) (by omega) ?_) b 0 u (by omega) t
      rw [cm_s (s := 1), foS_cat]
      exact tg
  -- behind one
  have aft : ∀ u st, tMs A h st u → st = shR (gS A) (A 245) 1 → ((¬ (ah_i u 82 60) = (-1) → ((¬ (ah_i u 82 60) = (-1) → (∀ z, z = ah_si u 82 62 (ah_i u 82 1) → Q none z)) ∧ ((ah_i u 82 60) = (-1) → Wp mX12_findsShutters Q 0 0 118 [some (.ref 82), some (.int (nI n)), some (.int 2), none, none] [] u))) ∧ ((ah_i u 82 60) = (-1) → Wp mX12_findsShutters Q 0 0 73 [some (.ref 82), some (.int (nI n)), some (.int 1), none, none] [] u)) := by
    intro u st t est
    rw [(i60 t).1]
    rw [est] at t ⊢
    refine ⟨fun y => ⟨fun _ => fin u _ t ?_, fun z => absurd z y⟩, fun y => ?_⟩
    · exact (sh_up y 2).symm
    · refine l73 y (max n 1 - 1) 1 u (by omega) (by omega) ?_
      rw [cm_nil 1 2 (by omega)]
      rw [sh_00 _ y] at t
      exact t
  have l38 : (shR (gS A) (A 245) 0).1 = 0 → ∀ (q a : Nat) (u : ah_T), a + q = n → tMs A h (foS (gS A) (cmL 1 a) (0, 0)) u → Wp mX12_findsShutters Q 0 0 38 [some (.ref 82), some (.int (nI n)), some (.int (nI a)), none, none] [] u := by
    intro z0 q
    induction q with
    | zero =>
      intro a u ha t
      have e9 : a = n := by omega
      subst e9
      refine T_X12_findsShutters_38 t.1.1.1 _ _ ?_
      (first | refine ⟨fun _ => ?_, fun n_ => absurd (show nI a ≤ nI a from nI_le (Nat.le_refl _) (by omega)) n_⟩ | refine ⟨fun n_ => absurd (show nI a ≤ nI a from nI_le (Nat.le_refl _) (by omega)) n_, fun _ => ?_⟩ | refine ⟨fun y_ => absurd y_ (show nI a ≤ nI a from nI_le (Nat.le_refl _) (by omega)), fun _ => ?_⟩ | refine ⟨fun _ => ?_, fun y_ => absurd y_ (show nI a ≤ nI a from nI_le (Nat.le_refl _) (by omega))⟩)
      exact aft u _ t (by rw [sh_s1 z0, ← en])
    | succ q ih =>
      intro a u ha t
      have han : a < n := by omega
      refine T_X12_findsShutters_38 t.1.1.1 _ _ ?_
      (first | refine ⟨fun _ => ?_, fun n_ => absurd (show ¬ nI n ≤ nI a from nI_ge han (by omega)) n_⟩ | refine ⟨fun n_ => absurd (show ¬ nI n ≤ nI a from nI_ge han (by omega)) n_, fun _ => ?_⟩ | refine ⟨fun y_ => absurd y_ (show ¬ nI n ≤ nI a from nI_ge han (by omega)), fun _ => ?_⟩ | refine ⟨fun _ => ?_, fun y_ => absurd y_ (show ¬ nI n ≤ nI a from nI_ge han (by omega))⟩)
      have no1 : ∀ b, ¬ (foS (gS A) (cmL 1 b) (0, 0)).1 = 1 := by
        intro b y
        have mem : ∀ b x, x ∈ cmL 1 b → 0 < x := by
          intro b
          induction b with
          | zero => intro x hx; rw [cm_nil 0 1 (by omega)] at hx; exact absurd hx (List.not_mem_nil)
          | succ b ihb =>
            intro x hx
            rw [cm_1] at hx
            rcases List.mem_append.mp hx with r | r
            · exact ihb x r
            · rw [List.mem_singleton.mp r]; exact Nat.two_pow_pos b
        rcases foS_in (g := gS A) (cmL 1 b) (0, 0) with r | ⟨x, hx, r⟩
        · rw [r] at y; exact absurd y (by decide)
        · have := mem b x hx
          omega
      refine ⟨fun y => absurd ((i60 t).2.mp y) (no1 a), fun _ => ?_⟩
      rw [sft a (by omega), nI_1]
      have x4 := p2s (show a < 20 by omega)
      rw [Nat.pow_succ] at x4
      have := Nat.two_pow_pos a
      refine m_tS wf t rfl (by omega) (fun g tg => ih (a + 1) g (by omega) ?_)
      rw [cm_1, foS_cat]
      exact tg
  -- none
  have e0 : shR (gS A) (A 245) 0 = foS (gS A) [0] (0, 0) := by
    show foS (gS A) (cmL 0 (A 245)) (0, 0) = _
    have e : cmL 0 (A 245) = [0] := by unfold cmL; rfl
    rw [e]
  refine m_triesShut (S := 0) s5 q5 wf rfl k5 (by decide) (fun g ⟨f1, f2, f3⟩ o kk => ⟨rfl, f1.1, ?_⟩)
  rw [e245]
  have t0 : tMs A h (shR (gS A) (A 245) 0) g := by
    rw [e0]
    refine ⟨⟨mfF_t f5 f1, by rw [f2, i5 62 (by decide) (by decide)], f3⟩, ?_, kk, ?_⟩
    · rcases o with y | y
      · exact y
      · exact absurd rfl y.2
    · rcases foS_in (g := gS A) [0] (0, 0) with y | ⟨x, hx, y⟩
      · rw [y]; decide
      · rw [y, List.mem_singleton.mp hx]; decide
  by_cases z0 : (shR (gS A) (A 245) 0).1 = 0
  · refine l38 z0 n 0 g (by omega) ?_
    rw [cm_nil 0 1 (by omega)]
    rw [sh_00 _ z0] at t0
    exact t0
  · have s01 : shR (gS A) (A 245) 1 = shR (gS A) (A 245) 0 := sh_s2 z0
    have one : (shR (gS A) (A 245) 0).1 = 1 := by
      rw [e0] at z0 ⊢
      rcases foS_in (g := gS A) [0] (0, 0) with y | ⟨x, hx, y⟩
      · exact absurd y z0
      · rw [y, List.mem_singleton.mp hx]
    refine T_X12_findsShutters_38 f1.1 _ _ ⟨fun _ => aft g _ t0 s01.symm, fun _ => ⟨fun _ => aft g _ t0 s01.symm, fun y => absurd ((i60 t0).2.mpr one) y⟩⟩
theorem qF_mf (f : mfF h g) : qF h g := ⟨f.1, Nat.le_of_eq f.2.1.symm, fun a n => f.2.2.1 a (by omega), fun j _ _ => (f.2.2.1 0 (by omega)).1 j, fun j n => f.2.2.2 j (by omega)⟩
theorem inv_mf (X : XP KX RX WX) (hW : hWp KX RX) (p : preQ KX RX WX shX n A h) (f : mfF h g) (q : mQs A g) (k : mkO (shR (gS A) (A 245) 3) g) (e62 : ah_i g 82 62 = ah_i g 82 1) (e49 : ah_i g 82 49 = -1) : Inv TXm (CCg KX RX WX) (CMg shX) n g := by
  obtain ⟨p1, p2, ⟨v, c1, c2, c3, c4⟩, ⟨g0, c5, c6⟩, c7, c8, c9, c10⟩ := p
  have e1 : ah_i g 82 1 = nI v := by rw [f.2.2.2 1 (by omega)]; exact c1
  refine inv_of f.1 ⟨bsO_q (qF_mf f) p1, (CCg_p X hW).1 _ _ _ p2 (agC_of (fun a h1 h2 => f.2.2.1 a (by omega)) (fun a h1 h2 => f.2.2.1 a (by omega)) (Nat.le_of_eq f.2.1.symm)) ((f.2.2.1 0 (by omega)).1 18) ((f.2.2.1 0 (by omega)).1 19), ⟨v, e1, c2, ?_, ?_⟩, ⟨g0, by rw [(f.2.2.1 38 (by omega)).2.1]; exact c5, c6⟩, fun j hj => by rw [(f.2.2.1 87 (by omega)).1]; exact c7 j hj, q.2.1, fun y => ?_, fun _ => k⟩
  · rw [e49]
    show (-1 : Int) ≤ v
    omega
  · rw [e62, e1, nI_toInt (by omega)]; omega
  · rw [e49, e1] at y
    exact absurd y.symm (nI_m1 (by omega))
theorem rel_shutters (X : XP KX RX WX) (hW : hWp KX RX) (K : KRp KX RX) (W : Wp1 WX peX Cpc) (x1 : Int32) : lw_RC (Inv TXm (CCg KX RX WX) (CMg shX) (n + 1)) (Inv TXm (CCg KX RX WX) (CMg shX) n) mX11_shutters mX12_shutters [.int x1] := by
  intro h hI
  obtain ⟨hs, A, p⟩ := pre_of hI
  refine T_X11_shutters hs _ ⟨fun y => ?_, fun y => ?_⟩
  rotate_left
  · refine ⟨_, rfl, hs, T_X12_shutters hs _ ⟨fun z => ?_, fun _ => ⟨_, rfl, rfl, inv_less hs p⟩⟩⟩
    rw [q_three] at z
    exact absurd y z
  refine lk1 hs X shX_p p (fun h6 g' s6 p6 lk6 pq => ?_)
  have wf : WF A := p6.1.choose_spec.choose_spec.choose_spec.choose_spec.1
  have h20 := wf.1.1
  refine c_findPeace s6 lk6.1 wf.2.1 wf.2.2.2.1 wf.1 (W.1 _ _ lk6.2.2.2.2.1) (fun g fg cg pe => ⟨rfl, fg.1.1, ?_⟩)
  have fe : ∀ a, (a < 26 ∨ (28 < a ∧ a < 39) ∨ 53 < a) → a ≠ 74 → a ≠ 79 → a ≠ 80 → a ≠ 81 → eqc h6 g a := fun a n n1 n2 n3 n4 => fg.1.2.2.1 a n (fun z => by rcases z with z | z | z | z <;> omega)
  have lg : lkO KX RX WX g' A g := by
    refine lkO_g K W (P := fun a => a = 74 ∨ P7 a) (fun a z => by rcases z with z | z | z | z <;> omega) fg.1 cg.2.1 cg.2.2.1 (fun a j w c => ?_) (fun j _ => ⟨(fe 63 (by omega) (by omega) (by omega) (by omega) (by omega)).1 j, (fe 65 (by omega) (by omega) (by omega) (by omega) (by omega)).1 j⟩) (.inr pe) lk6
    by_cases z : a = 74
    · subst z
      refine fg.2 j (fun y => c ⟨rfl, .inl y⟩) (fun y => c ⟨rfl, .inr (.inl y)⟩) (fun y => c ⟨rfl, .inr (.inr y)⟩)
    · have : 53 < a ∧ a < 79 := by
        unfold wxc Cwk Cst Ccg Cli Cwo Chg Cpc at w
        omega
      exact (fe a (by omega) z (by omega) (by omega) (by omega)).1 j
  have pg := pq g ⟨fg.1.1, fg.1.2.1, fun a n => fe a (by omega) (by omega) (by omega) (by omega) (by omega), fun j _ _ => (fe 0 (by omega) (by omega) (by omega) (by omega) (by omega)).1 j⟩ lg
  obtain ⟨i12, t1, t2, t3⟩ := pe
  obtain ⟨R, eR⟩ : ∃ R, R = shR (gS A) (A 245) 3 := ⟨_, rfl⟩
  rw [← eR] at t1 t2 t3
  have bound : R.1 ≤ 2 ^ 20 ∧ R.2 ≤ 1140 := by
    have one : ∀ s, s < 4 → (foS (gS A) (cmL s (A 245)) (0, 0)).1 ≤ 2 ^ 20 ∧ (foS (gS A) (cmL s (A 245)) (0, 0)).2 ≤ 1140 := fun s hs4 => by
      refine ⟨?_, ?_⟩
      · rcases foS_in (g := gS A) (cmL s (A 245)) (0, 0) with y | ⟨x, hx, y⟩
        · rw [y]; exact Nat.zero_le _
        · rw [y]
          have a1 := cm_lt _ _ _ hx
          have a2 : 2 ^ A 245 ≤ 2 ^ 20 := Nat.pow_le_pow_right (by decide) h20
          omega
      · by_cases q1 : s ≤ A 245
        · have := (ck_all (A 245) (by omega) s hs4 q1).2.2
          have f := foS_le (g := gS A) (cmL s (A 245)) (0, 0)
          have f' : (foS (gS A) (cmL s (A 245)) (0, 0)).2 ≤ 0 + (cmL s (A 245)).length := f
          omega
        · rw [cm_nil _ _ (by omega)]; exact Nat.zero_le _
    have all : ∀ s, s < 4 → (shR (gS A) (A 245) s).1 ≤ 2 ^ 20 ∧ (shR (gS A) (A 245) s).2 ≤ 1140 := by
      intro s
      induction s with
      | zero => exact one 0
      | succ s ih =>
        intro h4
        by_cases q1 : (shR (gS A) (A 245) s).1 = 0
        · rw [sh_s1 q1]; exact one _ h4
        · rw [sh_s2 q1]; exact ih (by omega)
    rw [eR]; exact all 3 (by decide)
  obtain ⟨b1, b2⟩ := bound
  have p20 : (2 : Nat) ^ 20 = 1048576 := rfl
  -- the model
  have mod : ∀ (v : Int32), ((¬ x1 = 2 → (¬ R.1 = 0 → (¬ x1 = 0 → v = nI (R.1 - 1)) ∧ (x1 = 0 → v = nI (hN (R.1 - 1)))) ∧ (R.1 = 0 → v = -1)) ∧ (x1 = 2 → v = nI R.2)) → (ab_qi fun v h1 => Sh h1 ∧ Mt mX12_shutters [.ref 82, .int x1] h1 (ab_qi fun w h2 => v = w ∧ Inv TXm (CCg KX RX WX) (CMg shX) n h2)) (some (.int v)) g := by
    intro v hv
    refine ⟨_, rfl, fg.1.1, T_X12_shutters fg.1.1 _ ⟨fun _ => ?_, fun z => ?_⟩⟩
    rotate_left
    · rw [q_three] at z
      exact absurd z y
    have mq := mQs_p pg
    refine m_findsShutters fg.1.1 mq wf.1 pg.2.2.2.2.2.2.2 (fun u fu qu ku e62 o => ⟨rfl, fu.1, ?_⟩)
    have iv : Inv TXm (CCg KX RX WX) (CMg shX) n u := by
      rcases o with o | o
      · rw [o]; exact inv_of fg.1.1 pg
      · exact inv_mf X hW pg fu qu ku e62 o
    obtain ⟨k1, k2⟩ := ku
    rw [← eR] at k1 k2
    rw [k1, k2, nO_z (by omega)]
    refine ⟨fun z => ⟨fun z1 => ?_, fun z1 => ⟨_, rfl, (hv.1 z).2 z1, iv⟩⟩, fun z => ⟨_, rfl, hv.2 z, iv⟩⟩
    have e : nO R.1 = nI (R.1 - 1) := by rw [show R.1 = (R.1 - 1) + 1 by omega, nO_s, Nat.add_sub_cancel]
    rw [e]
    refine ⟨fun z2 => ⟨_, rfl, ((hv.1 z).1 z1).1 z2, iv⟩, fun z2 => ?_⟩
    refine m_ones fu.1 _ ⟨_, rfl, fu.1, _, rfl, ?_, iv⟩
    rw [((hv.1 z).1 z1).2 z2]
    exact congrArg nI (cb_ext (fun i hi => (nb (by omega)).symm))
  rw [t1]
  have r2 : (nI R.2 = 0 ↔ R.1 = 0) := by
    rw [t3]
    exact nI_eq (b := 0) (by omega) (by omega)
  rw [r2]
  refine ⟨fun z => ⟨fun z1 => ?_, fun z1 => mod _ ⟨fun _ => ⟨fun z2 => absurd z1 z2, fun _ => rfl⟩, fun z2 => absurd z2 z⟩⟩, fun z => mod _ ⟨fun z2 => absurd z z2, fun _ => rfl⟩⟩
  rw [t2 z1]
  refine ⟨fun z2 => mod _ ⟨fun _ => ⟨fun _ => ⟨fun _ => rfl, fun z3 => absurd z3 z2⟩, fun z3 => absurd z3 z1⟩, fun z3 => absurd z3 z⟩, fun z2 => ?_⟩
  rw [bc_20 (show R.1 - 1 < 2 ^ 20 by omega)]
  exact mod _ ⟨fun _ => ⟨fun _ => ⟨fun z3 => absurd z2 z3, fun _ => rfl⟩, fun z3 => absurd z3 z1⟩, fun z3 => absurd z3 z⟩
end SR
