/-! ===== rounds on both sides: the loops ===== -/
section RL
variable {cs vs : Nat → Nat} {n b : Nat} {w0 : Nat → Int} {h0 h : ah_T} {A0 : Nat → Nat} {b0 x : Nat} {cls : List Cl}
theorem drop_at {k : Nat} (hk : k < cls.length) : cls.drop k = cls.getD k cl0 :: cls.drop (k + 1) := by
  rw [List.drop_eq_getElem_cons hk]
  simp [List.getD, hk]
theorem getD_mem {k : Nat} (hk : k < cls.length) : cls.getD k cl0 ∈ cls := by
  have : cls.getD k cl0 = cls[k] := by simp [List.getD, hk]
  rw [this]
  exact List.getElem_mem hk
theorem once_why (cl : Cl) (w : Nat → Int) (r : Nat) (A : Nat → Nat) : (once cl w r A).1 = 0 ∨ (once cl w r A).1 = -5 ∨ (once cl w r A).1 = -3 := by
  unfold once
  split
  · exact .inr (.inr rfl)
  · split
    · exact .inr (.inr rfl)
    · split
      · exact .inr (.inr rfl)
      · dsimp only
        unfold rwy
        split
        · exact .inr (.inr rfl)
        · split
          · exact .inr (.inr rfl)
          · split
            · exact .inr (.inl rfl)
            · exact .inl rfl
theorem crun_why (cl : Cl) (w0 : Nat → Int) (b0 : Nat) : ∀ (k r : Nat) (A : Nat → Nat), (crun cl w0 b0 k r A).1 = 0 ∨ (crun cl w0 b0 k r A).1 = -5 ∨ (crun cl w0 b0 k r A).1 = -3
  | 0, r, A => .inl rfl
  | k + 1, r, A => by
    unfold crun
    by_cases c : pass cl (wR w0 A b0 r) = true
    · rw [if_pos c]
      by_cases c2 : (once cl (wR w0 A b0 r) r A).1 = 0
      · rw [if_pos c2]; exact crun_why cl w0 b0 k _ _
      · rw [if_neg c2]; exact once_why cl _ r A
    · rw [if_neg c]; exact crun_why cl w0 b0 k _ _
/-- the class goes through the clauses -/
theorem c_rounds_loop {Q : Option Value → ah_T → Prop} (wf0 : WF A0) (t0 : tx h0 x true cls) (hR : ∀ c ∈ cls, clR c) (hb : b0 ≤ A0 247) (hT : ah_i h0 14 0 = nI (A0 242)) (hw0 : ∀ j, j < 13 → -1000000000 ≤ w0 j ∧ w0 j ≤ 1000000000) (hws : ∀ j, (j < 6 ∨ j = 7) → (ah_i h0 27 j).toInt = w0 j)
    (k1 : (rnds w0 b0 cls 0 A0).1 = 0 → ∀ h', qFr h0 h' → c6 (rnds w0 b0 cls 0 A0).2.2 h' → xt A0 (rnds w0 b0 cls 0 A0).2.2 → Mt mX11_change [.ref 0, .int (nI ((rnds w0 b0 cls 0 A0).2.2 247 - b0))] h' (ab_qi fun v29 h27 => Sh h27 ∧ ah_k h27 x = 9 ∧ Q (some (.int v29)) h27))
    (k2 : ∀ y, ((rnds w0 b0 cls 0 A0).1 = y ∧ (y = -5 ∨ y = -3)) → ∀ h', qFr h0 h' → c6 (rnds w0 b0 cls 0 A0).2.2 h' → xt A0 (rnds w0 b0 cls 0 A0).2.2 → Mt mX11_refuse [.ref 0, .int y] (ah_si (ah_si h' 0 16 (nI (rnds w0 b0 cls 0 A0).2.1)) 6 3 (nI b0)) (ab_qi fun v46 h44 => Sh h44 ∧ ah_k h44 x = 9 ∧ Q (some (.int v46)) h44)) :
    ∀ (q k : Nat) (A : Nat → Nat) (h : ah_T), k + q = cls.length → xt A0 A → qFr h0 h → c6 A h → rnds w0 b0 cls 0 A0 = rnds w0 b0 (cls.drop k) k A → Wp mX11_rounds Q 4 1010 57 [some (.ref 0), some (.ref x), some (.int (nI b0)), some (.int (nI k)), none] [] h := by
  intro q
  induction q with
  | zero =>
    intro k A h hk xA qh c e
    have tt := tx_q qh t0
    have h12 := tt.2.2.2.2.2.1
    refine T_X11_rounds_57 qh.1 x _ _ tt.1.2.2.1 ?_
    rw [tt.2.2.2.2.1]
    (first | refine ⟨fun _ => ?_, fun n_ => absurd (show nI cls.length ≤ nI k from nI_le (by omega) (by omega)) n_⟩ | refine ⟨fun n_ => absurd (show nI cls.length ≤ nI k from nI_le (by omega) (by omega)) n_, fun _ => ?_⟩ | refine ⟨fun y_ => absurd y_ (show nI cls.length ≤ nI k from nI_le (by omega) (by omega)), fun _ => ?_⟩ | refine ⟨fun _ => ?_, fun y_ => absurd y_ (show nI cls.length ≤ nI k from nI_le (by omega) (by omega))⟩)
    rw [List.drop_eq_nil_of_le (by omega)] at e
    have e' : rnds w0 b0 cls 0 A0 = (0, k, A) := e
    rw [e'] at k1
    have hb2 : b0 ≤ A 247 := by have := xA.2.1; omega
    rw [c.2.2.2.2.1, nI_sub hb2]
    exact k1 rfl h qh c xA
  | succ q ih =>
    intro k A h hk xA qh c e
    have tt := tx_q qh t0
    have h12 := tt.2.2.2.2.2.1
    have hkl : k < cls.length := by omega
    refine T_X11_rounds_57 qh.1 x _ _ tt.1.2.2.1 ?_
    rw [tt.2.2.2.2.1]
    (first | refine ⟨fun _ => ?_, fun n_ => absurd (show ¬ nI cls.length ≤ nI k from nI_ge (by omega) (by omega)) n_⟩ | refine ⟨fun n_ => absurd (show ¬ nI cls.length ≤ nI k from nI_ge (by omega) (by omega)) n_, fun _ => ?_⟩ | refine ⟨fun y_ => absurd y_ (show ¬ nI cls.length ≤ nI k from nI_ge (by omega) (by omega)), fun _ => ?_⟩ | refine ⟨fun _ => ?_, fun y_ => absurd y_ (show ¬ nI cls.length ≤ nI k from nI_ge (by omega) (by omega))⟩)
    rw [drop_at hkl] at e
    have hb2 : b0 ≤ A 247 := by have := xA.2.1; omega
    refine c_runClause qh.1 xA.1 tt hkl (hR _ (getD_mem hkl)) c hb2 (by rw [(qh.2.2.1 14 (by decide) (by decide) (by decide) (by decide) (by decide)).1, hT, xA.2.2.2 242 (by omega) (by omega)]) hw0 (fun j hj => by rw [qh.2.2.2.1 j (by omega) hj]; exact hws j hj) rfl rfl (fun g qg cg => ⟨_, rfl, qg.1, (tx_q qg tt).1.2.2.1, ?_⟩)
    have q0g := qFr_t qh qg
    have xg := xt_t xA (xt_crun (cls.getD k cl0) w0 b0 (cls.getD k cl0).2.2.2.2.1 0 A xA.1)
    rw [rnds] at e
    refine ⟨fun z => ?_, fun z => ?_⟩
    · rw [if_pos z] at e
      rw [nI_1]
      exact ih (k + 1) _ g (by omega) xg q0g cg e
    · rw [if_neg z] at e
      rintro h36 rfl h40 rfl
      have hy := crun_why (cls.getD k cl0) w0 b0 (cls.getD k cl0).2.2.2.2.1 0 A
      rw [e] at k2
      exact k2 _ ⟨rfl, by rcases hy with y | y | y; exact absurd y z; exact .inl y; exact .inr y⟩ g q0g cg xg
/-- the model goes through the clauses -/
theorem m_rounds_loop {Q : Option Value → ah_T → Prop} (hb : b0 ≤ A0 247) (hw0 : ∀ j, j < 13 → -1000000000 ≤ w0 j ∧ w0 j ≤ 1000000000) (hT : ah_i h0 84 242 = nI (A0 242))
    (g1 : n ≤ 400) (g2 : cs n = 0) (g3 : b + n ≤ 2800) (g4 : ∀ k, k < n → ah_i h0 84 (260 + (b + k)) = nI (cs k) ∧ ah_i h0 84 (3060 + (b + k)) = nI (vs k)) (g5 : ∀ k, k ≤ n → cs k < 400 ∧ vs k < 2 ^ 31) {res : Int32 × Nat × (Nat → Nat)}
    (k1 : res.1 = 0 → ∀ h', mRr b0 A0 h0 h' res.2.2 → Mt mX12_good [.ref 82, .int (nI (res.2.2 247 - b0))] h' (ab_qi fun v29 h27 => Sh h27 ∧ Q (some (.int v29)) h27))
    (k2 : ∀ y, (res.1 = y ∧ (y = -5 ∨ y = -3)) → ∀ h', mRr b0 A0 h0 h' res.2.2 → Mt mX12_refuses [.ref 82, .int y] (ah_si (ah_si h' 84 247 (nI b0)) 82 66 (nI res.2.1)) (ab_qi fun v46 h44 => Sh h44 ∧ Q (some (.int v46)) h44)) :
    ∀ (k m i lv : Nat) (acc : List Cl) (A : Nat → Nat) (h : ah_T), (pTx cs n (pRnd cs vs isR) k acc i lv).1 = true → i ≤ n → lv ≤ 50 → mRr b0 A0 h0 h A → ah_i h 82 67 = nI (b + i) → res = rnds w0 b0 (pTl cs (pRnd cs vs isR) k i lv) m A → Wp mX12_rounds Q 0 0 72 [some (.ref 82), some (.int (nI b0)), some (.int (nI (b + n))), some (.int (nI m)), none] [] h := by
  intro k
  induction k with
  | zero => intro m i lv acc A h hp; exact (pTx_0 hp).elim
  | succ k ih =>
    intro m i lv acc A h hp hi hl mr e67 er
    obtain ⟨p1, p2⟩ := pTx_inv hp
    have ok := pRnd_ok (cs := cs) (vs := vs) (isV := isR) (n := n) g2 (isVof_0 true) i lv hi hl
    have hin : i < n := by
      obtain ⟨v, hv, _⟩ := pRnd_inv p1
      exact lt_n g2 hi (by omega)
    obtain ⟨o1, o2, o3⟩ := ok
    refine T_X12_rounds_72 mr.1.1 _ _ _ ?_
    rw [e67]
    (first | refine ⟨fun _ => ?_, fun n_ => absurd (show ¬ nI (b + n) ≤ nI (b + i) from nI_ge (by omega) (by omega)) n_⟩ | refine ⟨fun n_ => absurd (show ¬ nI (b + n) ≤ nI (b + i) from nI_ge (by omega) (by omega)) n_, fun _ => ?_⟩ | refine ⟨fun y_ => absurd y_ (show ¬ nI (b + n) ≤ nI (b + i) from nI_ge (by omega) (by omega)), fun _ => ?_⟩ | refine ⟨fun _ => ?_, fun y_ => absurd y_ (show ¬ nI (b + n) ≤ nI (b + i) from nI_ge (by omega) (by omega))⟩)
    refine m_runs mr hb hw0 hT g1 g2 g3 g4 g5 hi hl p1 e67 rfl (fun g v mg wy v67 => ⟨v, rfl, mg.1.1, ?_⟩)
    rw [pTl, rnds] at er
    rcases wy with ⟨y1, y2⟩ | ⟨y1, y2⟩ | ⟨y1, y2, y3⟩
    · subst y2
      rw [if_pos y1] at er
      (first | refine ⟨fun _ => ?_, fun n_ => absurd (show (0 : Int32) = 0 by rfl) n_⟩ | refine ⟨fun n_ => absurd (show (0 : Int32) = 0 by rfl) n_, fun _ => ?_⟩ | refine ⟨fun y_ => absurd y_ (show (0 : Int32) = 0 by rfl), fun _ => ?_⟩ | refine ⟨fun _ => ?_, fun y_ => absurd y_ (show (0 : Int32) = 0 by rfl)⟩)
      rw [nI_1]
      rcases p2 with ⟨c, e⟩ | ⟨c, c2, e⟩
      · rw [if_pos c] at er
        rw [e] at hp
        exact ih (m + 1) _ _ _ _ g hp (lt_n g2 o1 (by omega)) (o3 p1).2 mg (v67 rfl) er
      · rw [if_neg c] at er
        have er' : res = (0, m + 1, _) := er
        refine T_X12_rounds_72 mg.1.1 _ _ _ ?_
        rw [v67 rfl]
        (first | refine ⟨fun _ => ?_, fun n_ => absurd (show nI (b + n) ≤ nI (b + ((pRnd cs vs isR i lv).2.1 + 1)) from nI_le (by omega) (by omega)) n_⟩ | refine ⟨fun n_ => absurd (show nI (b + n) ≤ nI (b + ((pRnd cs vs isR i lv).2.1 + 1)) from nI_le (by omega) (by omega)) n_, fun _ => ?_⟩ | refine ⟨fun y_ => absurd y_ (show nI (b + n) ≤ nI (b + ((pRnd cs vs isR i lv).2.1 + 1)) from nI_le (by omega) (by omega)), fun _ => ?_⟩ | refine ⟨fun _ => ?_, fun y_ => absurd y_ (show nI (b + n) ≤ nI (b + ((pRnd cs vs isR i lv).2.1 + 1)) from nI_le (by omega) (by omega))⟩)
        rw [er'] at k1
        rw [mg.2.2.2.2.1]
        exact k1 rfl g mg
    · subst y2
      rw [if_neg (by rw [y1]; decide)] at er
      (first | refine ⟨fun _ => ?_, fun n_ => absurd (show ¬ (-5 : Int32) = 0 by decide) n_⟩ | refine ⟨fun n_ => absurd (show ¬ (-5 : Int32) = 0 by decide) n_, fun _ => ?_⟩ | refine ⟨fun y_ => absurd y_ (show ¬ (-5 : Int32) = 0 by decide), fun _ => ?_⟩ | refine ⟨fun _ => ?_, fun y_ => absurd y_ (show ¬ (-5 : Int32) = 0 by decide)⟩)
      rintro h34 rfl h37 rfl
      (first | refine ⟨fun _ => ?_, fun n_ => absurd (show (-5 : Int32) = -5 by rfl) n_⟩ | refine ⟨fun n_ => absurd (show (-5 : Int32) = -5 by rfl) n_, fun _ => ?_⟩ | refine ⟨fun y_ => absurd y_ (show (-5 : Int32) = -5 by rfl), fun _ => ?_⟩ | refine ⟨fun _ => ?_, fun y_ => absurd y_ (show (-5 : Int32) = -5 by rfl)⟩)
      rw [er] at k2
      exact k2 (-5) ⟨y1, .inl rfl⟩ g mg
    · rw [if_neg (by rw [y1]; decide)] at er
      (first | refine ⟨fun _ => ?_, fun n_ => absurd (show ¬ v = 0 from fun z => by rw [z] at y2; exact absurd y2 (by decide)) n_⟩ | refine ⟨fun n_ => absurd (show ¬ v = 0 from fun z => by rw [z] at y2; exact absurd y2 (by decide)) n_, fun _ => ?_⟩ | refine ⟨fun y_ => absurd y_ (show ¬ v = 0 from fun z => by rw [z] at y2; exact absurd y2 (by decide)), fun _ => ?_⟩ | refine ⟨fun _ => ?_, fun y_ => absurd y_ (show ¬ v = 0 from fun z => by rw [z] at y2; exact absurd y2 (by decide))⟩)
      rintro h34 rfl h37 rfl
      (first | refine ⟨fun _ => ?_, fun n_ => absurd (y3) n_⟩ | refine ⟨fun n_ => absurd (y3) n_, fun _ => ?_⟩ | refine ⟨fun y_ => absurd y_ (y3), fun _ => ?_⟩ | refine ⟨fun _ => ?_, fun y_ => absurd y_ (y3)⟩)
      rw [er] at k2
      exact k2 (-3) ⟨y1, .inr rfl⟩ g mg
end RL
