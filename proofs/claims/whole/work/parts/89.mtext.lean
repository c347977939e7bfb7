/-! ===== the model's reader of rounds' clauses, of texts ===== -/
section RD
variable {cs vs pl : Nat → Nat} {isV : Nat → Bool} {n : Nat} {h0 h : ah_T}
theorem f_lies120 (v : Nat) (hv : v < 2 ^ 31) : f_X12_lies (nI v) 1 20 = 0 ↔ ¬ (1 ≤ v ∧ v ≤ 20) := by
  unfold f_X12_lies
  have e1 : (nI v < 1) ↔ v < 1 := nI_ltI (b := 1) hv (by decide)
  have e2 : (20 < nI v) ↔ 20 < v := nI_ltI (a := 20) (by decide) hv
  have e3 : (nI v ≤ 20) ↔ v ≤ 20 := nI_leI (b := 20) hv (by decide)
  have e4 : (1 ≤ nI v) ↔ 1 ≤ v := nI_leI (a := 1) (by decide) hv
  grind
theorem mr_round (t : Tk cs vs pl isV n h0) : mRn cs vs pl isV n h0 mX12_readRound (pRnd cs vs isV) := by
  intro Q h i lv hi hl q k
  have SU := mr_Sum t 8 60 (by omega) (by omega)
  have h0n := t.2.1
  have hV := t.2.2.1
  -- behind times
  have kI : ∀ {h : ah_T} {i lv : Nat} (g : Option Tg → Cl), i ≤ n → lv ≤ 50 → mS h0 h i lv → (∀ h', pst pl h0 (pMp g (pIf cs vs isV i lv)) h' → Q none h') → Wp mX12_readRound Q 0 0 107 [some (.ref 82)] [] h := by
    intro h i lv g hi hl q k
    exact T_X12_readRound_107 q.1.1 (Mt.mono (fun r h2 z => by
      obtain ⟨v, e, s, z1, z2⟩ := z
      exact ⟨v, e, s, fun c => T_X12_readRound_120 s (z1 c), fun c => Mt.mono (fun r2 h3 y => ⟨y.1, y.2.1, T_X12_readRound_120 y.2.1 y.2.2⟩) (z2 c)⟩) (mt_ifS t q hi hl k))
  have kIF : ∀ {h : ah_T} {p : Nat}, mF h0 h p → Q none h → Wp mX12_readRound Q 0 0 107 [some (.ref 82)] [] h := by
    intro h p q k
    refine T_X12_readRound_107 q.1.1 (mt_takesF q ⟨_, rfl, q.1.1, ?_⟩)
    (first | refine ⟨fun _ => ?_, fun n_ => absurd (show (0 : Int32) = 0 by rfl) n_⟩ | refine ⟨fun n_ => absurd (show (0 : Int32) = 0 by rfl) n_, fun _ => ?_⟩ | refine ⟨fun y_ => absurd y_ (show (0 : Int32) = 0 by rfl), fun _ => ?_⟩ | refine ⟨fun _ => ?_, fun y_ => absurd y_ (show (0 : Int32) = 0 by rfl)⟩)
    exact T_X12_readRound_120 q.1.1 k
  -- times
  have kT : ∀ {h : ah_T} {i lv : Nat} (g : Nat → Option Tg → Cl), i ≤ n → lv ≤ 50 → mS h0 h i lv → (∀ h', pst pl h0 (pB (pTimes cs vs i lv) cl0 fun k j l => pMp (g k) (pIf cs vs isV j l)) h' → Q none h') → Wp mX12_readRound Q 0 0 45 [some (.ref 82)] [] h := by
    intro h i lv g hi hl q k
    refine T_X12_readRound_45 q.1.1 (mt_takesS t q hi (k := 25) rfl (by omega) (fun c h' w => ⟨_, rfl, w.1.1, ?_⟩) (fun c => ⟨_, rfl, q.1.1, ?_⟩))
    · (first | refine ⟨fun _ => ?_, fun n_ => absurd (show ¬ (1 : Int32) = 0 by decide) n_⟩ | refine ⟨fun n_ => absurd (show ¬ (1 : Int32) = 0 by decide) n_, fun _ => ?_⟩ | refine ⟨fun y_ => absurd y_ (show ¬ (1 : Int32) = 0 by decide), fun _ => ?_⟩ | refine ⟨fun _ => ?_, fun y_ => absurd y_ (show ¬ (1 : Int32) = 0 by decide)⟩)
      have hin := lt_n h0n hi (by omega)
      obtain ⟨b1, b2, b3, b4, b5, b6⟩ := (Tk_fr w.1 t).2.2.2.1 (i + 1) hin
      have t1 := t.1
      have n90 : ah_n h' 90 = 401 := sh_n w.1.1 90 401 (by decide) (by decide) rfl
      have n91 : ah_n h' 91 = 401 := sh_n w.1.1 91 401 (by decide) (by decide) rfl
      rw [w.2.1, nI_clamp (by omega), b1, b2, n90, n91]
      have bad : ¬ (cs (i + 1) = 50 ∧ 1 ≤ vs (i + 1) ∧ vs (i + 1) ≤ 20) → Wp mX12_readRound Q 0 0 86 [some (.ref 82)] [] h' := by
        intro z
        have hd : pTimes cs vs i lv = pFail (i + 1) lv 1 := by unfold pTimes; rw [if_pos c, if_neg z]
        refine T_X12_readRound_86 w.1.1 (mt_faultsS t w hin (fun h2 w2 => ⟨rfl, w2.1.1, T_X12_readRound_90 w2.1.1 ?_⟩))
        (first | refine ⟨fun _ => ?_, fun n_ => absurd (mF_fine w2) n_⟩ | refine ⟨fun n_ => absurd (mF_fine w2) n_, fun _ => ?_⟩ | refine ⟨fun y_ => absurd y_ (mF_fine w2), fun _ => ?_⟩ | refine ⟨fun _ => ?_, fun y_ => absurd y_ (mF_fine w2)⟩)
        refine kIF w2 (k h2 ?_)
        rw [hd, pB_f rfl]
        exact pst_mF w2 rfl rfl
      refine ⟨(vp_nI (by omega)).mpr (by omega), fun z => bad (fun y => z (by rw [y.1]; rfl)), fun z => ⟨(vp_nI (by omega)).mpr (by omega), fun z2 => ?_, fun z2 => bad (fun y => (f_lies120 _ b5).mp z2 y.2)⟩⟩
      have z3 : cs (i + 1) = 50 := (nI_eq (b := 50) (by omega) (by decide)).mp z
      have z4 : 1 ≤ vs (i + 1) ∧ vs (i + 1) ≤ 20 := by
        by_cases y : 1 ≤ vs (i + 1) ∧ vs (i + 1) ≤ 20
        · exact y
        · exact absurd ((f_lies120 _ b5).mpr y) z2
      have hd : pTimes cs vs i lv = (true, i + 2, lv, vs (i + 1)) := by unfold pTimes; rw [if_pos c, if_pos ⟨z3, z4⟩]
      refine T_X12_readRound_90 w.1.1 ?_
      (first | refine ⟨fun _ => ?_, fun n_ => absurd (mS_fine w) n_⟩ | refine ⟨fun n_ => absurd (mS_fine w) n_, fun _ => ?_⟩ | refine ⟨fun y_ => absurd y_ (mS_fine w), fun _ => ?_⟩ | refine ⟨fun _ => ?_, fun y_ => absurd y_ (mS_fine w)⟩)
      rintro h43 rfl
      have hin2 := lt_n h0n hin (show cs (i + 1) ≠ 0 by omega)
      refine kI (g (vs (i + 1))) (i := i + 2) (lv := lv) (by omega) hl ⟨fr82_set w.1 (.inl rfl), by rw [ah_i_ss, w.2.1, nI_1], by rw [ah_i_sn (by omega)]; exact w.2.2.1, by rw [ah_i_sn (by omega)]; exact w.2.2.2⟩ (fun h3 p3 => k h3 ?_)
      rw [hd, pB_t rfl]
      exact p3
    · (first | refine ⟨fun _ => ?_, fun n_ => absurd (show (0 : Int32) = 0 by rfl) n_⟩ | refine ⟨fun n_ => absurd (show (0 : Int32) = 0 by rfl) n_, fun _ => ?_⟩ | refine ⟨fun y_ => absurd y_ (show (0 : Int32) = 0 by rfl), fun _ => ?_⟩ | refine ⟨fun _ => ?_, fun y_ => absurd y_ (show (0 : Int32) = 0 by rfl)⟩)
      have hd : pTimes cs vs i lv = (true, i, lv, 1) := by unfold pTimes; rw [if_neg c]
      refine kI (g 1) hi hl q (fun h3 p3 => k h3 ?_)
      rw [hd, pB_t rfl]
      exact p3
  have kTF : ∀ {h : ah_T} {p : Nat}, mF h0 h p → Q none h → Wp mX12_readRound Q 0 0 45 [some (.ref 82)] [] h := by
    intro h p q k
    refine T_X12_readRound_45 q.1.1 (mt_takesF q ⟨_, rfl, q.1.1, ?_⟩)
    (first | refine ⟨fun _ => ?_, fun n_ => absurd (show (0 : Int32) = 0 by rfl) n_⟩ | refine ⟨fun n_ => absurd (show (0 : Int32) = 0 by rfl) n_, fun _ => ?_⟩ | refine ⟨fun y_ => absurd y_ (show (0 : Int32) = 0 by rfl), fun _ => ?_⟩ | refine ⟨fun _ => ?_, fun y_ => absurd y_ (show (0 : Int32) = 0 by rfl)⟩)
    exact kIF q k
  -- each
  have kE : ∀ {h : ah_T} {i lv : Nat} (g : Option Mg → Nat → Option Tg → Cl), i ≤ n → lv ≤ 50 → mS h0 h i lv → (∀ h', pst pl h0 (pB (pEach cs vs isV i lv) cl0 fun e j l => pB (pTimes cs vs j l) cl0 fun k j l => pMp (g e k) (pIf cs vs isV j l)) h' → Q none h') → Mt mX12_takes0 [.ref 82, .int 24] h (ab_qi fun v19 h17 => Sh h17 ∧ ((v19 = 0 → Wp mX12_readRound Q 0 0 45 [some (.ref 82)] [] h17) ∧ (¬ v19 = 0 → (Mt (mX12_readSum 60) [.ref 82, .int 0] h17 (ab_qv fun h21 => Sh h21 ∧ Wp mX12_readRound Q 0 0 45 [some (.ref 82)] [] h21))))) := by
    intro h i lv g hi hl q k
    refine mt_takesS t q hi (k := 24) rfl (by omega) (fun c h' w => ⟨_, rfl, w.1.1, ?_⟩) (fun c => ⟨_, rfl, q.1.1, ?_⟩)
    · (first | refine ⟨fun _ => ?_, fun n_ => absurd (show ¬ (1 : Int32) = 0 by decide) n_⟩ | refine ⟨fun n_ => absurd (show ¬ (1 : Int32) = 0 by decide) n_, fun _ => ?_⟩ | refine ⟨fun y_ => absurd y_ (show ¬ (1 : Int32) = 0 by decide), fun _ => ?_⟩ | refine ⟨fun _ => ?_, fun y_ => absurd y_ (show ¬ (1 : Int32) = 0 by decide)⟩)
      have hin := lt_n h0n hi (by omega)
      have hd : pEach cs vs isV i lv = pMp some (pSum cs vs isV 8 (i + 1) lv) := by unfold pEach; rw [if_pos c]
      refine SU.1 _ _ (i + 1) lv hin hl w (fun h2 p => ⟨rfl, pst_Sh p, ?_⟩)
      obtain ⟨e1, e2, e3⟩ := pSum_ok (vs := vs) h0n hV 8 (i + 1) lv hin hl
      cases e : (pSum cs vs isV 8 (i + 1) lv).1
      · refine kTF (p.2 e) (k h2 ?_)
        rw [hd, pB_pMp, pB_f e]
        exact pst_F p e rfl rfl
      · refine kT (g (some (pSum cs vs isV 8 (i + 1) lv).2.2.2)) e1 (e3 e).2.2 (p.1 e) (fun h3 p3 => k h3 ?_)
        rw [hd, pB_pMp, pB_t e]
        exact p3
    · (first | refine ⟨fun _ => ?_, fun n_ => absurd (show (0 : Int32) = 0 by rfl) n_⟩ | refine ⟨fun n_ => absurd (show (0 : Int32) = 0 by rfl) n_, fun _ => ?_⟩ | refine ⟨fun y_ => absurd y_ (show (0 : Int32) = 0 by rfl), fun _ => ?_⟩ | refine ⟨fun _ => ?_, fun y_ => absurd y_ (show (0 : Int32) = 0 by rfl)⟩)
      have hd : pEach cs vs isV i lv = (true, i, lv, none) := by unfold pEach; rw [if_neg c]
      refine kT (g none) hi hl q (fun h3 p3 => k h3 ?_)
      rw [hd, pB_t rfl]
      exact p3
  have kEF : ∀ {h : ah_T} {p : Nat}, mF h0 h p → Q none h → Mt mX12_takes0 [.ref 82, .int 24] h (ab_qi fun v19 h17 => Sh h17 ∧ ((v19 = 0 → Wp mX12_readRound Q 0 0 45 [some (.ref 82)] [] h17) ∧ (¬ v19 = 0 → (Mt (mX12_readSum 60) [.ref 82, .int 0] h17 (ab_qv fun h21 => Sh h21 ∧ Wp mX12_readRound Q 0 0 45 [some (.ref 82)] [] h21))))) := by
    intro h p q k
    refine mt_takesF q ⟨_, rfl, q.1.1, ?_⟩
    (first | refine ⟨fun _ => ?_, fun n_ => absurd (show (0 : Int32) = 0 by rfl) n_⟩ | refine ⟨fun n_ => absurd (show (0 : Int32) = 0 by rfl) n_, fun _ => ?_⟩ | refine ⟨fun y_ => absurd y_ (show (0 : Int32) = 0 by rfl), fun _ => ?_⟩ | refine ⟨fun _ => ?_, fun y_ => absurd y_ (show (0 : Int32) = 0 by rfl)⟩)
    exact kTF q k
  -- from the verb on
  have kV : ∀ {h : ah_T} {i lv v : Nat}, i ≤ n → lv ≤ 50 → mS h0 h i lv → (∀ h', pst pl h0 (pB (pSum cs vs isV 8 i lv) cl0 fun m j l => pB (pTok cs 23 j l) cl0 fun _ j l => pB (pSum cs vs isV 8 j l) cl0 fun a j l => pB (pEach cs vs isV j l) cl0 fun e j l => pB (pTimes cs vs j l) cl0 fun k j l => pMp (fun t => (v, some m, some a, e, k, t)) (pIf cs vs isV j l)) h' → Q none h') → Wp mX12_readRound Q 0 0 15 [some (.ref 82)] [] h := by
    intro h i lv v hi hl q k
    refine T_X12_readRound_15 q.1.1 (SU.1 _ _ i lv hi hl q (fun h2 p => ⟨rfl, pst_Sh p, ?_⟩))
    obtain ⟨e1, e2, e3⟩ := pSum_ok (vs := vs) h0n hV 8 i lv hi hl
    cases e : (pSum cs vs isV 8 i lv).1
    · have w := p.2 e
      refine mt_mustF w ⟨rfl, w.1.1, SU.2 _ _ _ w ⟨rfl, w.1.1, kEF w (k h2 ?_)⟩⟩
      rw [pB_f e]
      exact pst_F p e rfl rfl
    · obtain ⟨e4, e5, e6⟩ := e3 e
      rw [pB_t e] at k
      generalize (pSum cs vs isV 8 i lv) = r1 at *
      refine mt_mustS t (p.1 e) e1 (k := 23) rfl (by omega) (fun c h3 w => ⟨rfl, w.1.1, ?_⟩) (fun c h3 w => ⟨rfl, w.1.1, ?_⟩)
      · have hd : pTok cs 23 r1.2.1 r1.2.2.1 = (true, r1.2.1 + 1, r1.2.2.1, ()) := by unfold pTok; rw [if_pos c]
        rw [hd, pB_t rfl] at k
        have hin := lt_n h0n e1 (by omega)
        refine SU.1 _ _ (r1.2.1 + 1) r1.2.2.1 hin e6 w (fun h4 p4 => ⟨rfl, pst_Sh p4, ?_⟩)
        obtain ⟨g1, g2, g3⟩ := pSum_ok (vs := vs) h0n hV 8 (r1.2.1 + 1) r1.2.2.1 hin e6
        cases g : (pSum cs vs isV 8 (r1.2.1 + 1) r1.2.2.1).1
        · refine kEF (p4.2 g) (k h4 ?_)
          show pst pl h0 (pB (pSum cs vs isV 8 (r1.2.1 + 1) r1.2.2.1) _ _) h4
          rw [pB_f g]
          exact pst_F p4 g rfl rfl
        · refine kE (fun e k t => (v, some r1.2.2.2, some (pSum cs vs isV 8 (r1.2.1 + 1) r1.2.2.1).2.2.2, e, k, t)) g1 (g3 g).2.2 (p4.1 g) (fun h5 p5 => k h5 ?_)
          show pst pl h0 (pB (pSum cs vs isV 8 (r1.2.1 + 1) r1.2.2.1) _ _) h5
          rw [pB_t g]
          exact p5
      · have hd : pTok cs 23 r1.2.1 r1.2.2.1 = pFail r1.2.1 r1.2.2.1 () := by unfold pTok; rw [if_neg c]
        refine SU.2 _ _ _ w ⟨rfl, w.1.1, kEF w (k h3 ?_)⟩
        rw [hd, pB_f rfl]
        exact pst_mF w rfl rfl
  have kVF : ∀ {h : ah_T} {p : Nat}, mF h0 h p → Q none h → Wp mX12_readRound Q 0 0 15 [some (.ref 82)] [] h := by
    intro h p w k
    exact T_X12_readRound_15 w.1.1 (SU.2 _ _ _ w ⟨rfl, w.1.1, mt_mustF w ⟨rfl, w.1.1, SU.2 _ _ _ w ⟨rfl, w.1.1, kEF w k⟩⟩⟩)
  unfold pRnd at k
  refine T_X12_readRound q.1.1 (mt_takesS t q hi (k := 21) rfl (by omega) (fun c h' w => ⟨_, rfl, w.1.1, ?_⟩) (fun c => ⟨_, rfl, q.1.1, ?_⟩))
  · (first | refine ⟨fun _ => ?_, fun n_ => absurd (show ¬ (1 : Int32) = 0 by decide) n_⟩ | refine ⟨fun n_ => absurd (show ¬ (1 : Int32) = 0 by decide) n_, fun _ => ?_⟩ | refine ⟨fun y_ => absurd y_ (show ¬ (1 : Int32) = 0 by decide), fun _ => ?_⟩ | refine ⟨fun _ => ?_, fun y_ => absurd y_ (show ¬ (1 : Int32) = 0 by decide)⟩)
    have hd : pVerb cs i lv = (true, i + 1, lv, 3) := by unfold pVerb; rw [if_pos c]
    rw [hd, pB_t rfl] at k
    exact kV (lt_n h0n hi (by omega)) hl w k
  · (first | refine ⟨fun _ => ?_, fun n_ => absurd (show (0 : Int32) = 0 by rfl) n_⟩ | refine ⟨fun n_ => absurd (show (0 : Int32) = 0 by rfl) n_, fun _ => ?_⟩ | refine ⟨fun y_ => absurd y_ (show (0 : Int32) = 0 by rfl), fun _ => ?_⟩ | refine ⟨fun _ => ?_, fun y_ => absurd y_ (show (0 : Int32) = 0 by rfl)⟩)
    refine mt_mustS t q hi (k := 22) rfl (by omega) (fun c2 h' w => ⟨rfl, w.1.1, ?_⟩) (fun c2 h' w => ⟨rfl, w.1.1, ?_⟩)
    · have hd : pVerb cs i lv = (true, i + 1, lv, 4) := by unfold pVerb; rw [if_neg c, if_pos c2]
      rw [hd, pB_t rfl] at k
      exact kV (lt_n h0n hi (by omega)) hl w k
    · have hd : pVerb cs i lv = pFail i lv 0 := by unfold pVerb; rw [if_neg c, if_neg c2]
      refine kVF w (k h' ?_)
      rw [hd, pB_f rfl]
      exact pst_mF w rfl rfl
/-! ## texts -/
def aft (cs : Nat → Nat) (n : Nat) (M : Nat → Nat → pR Cl) (k : Nat) (acc : List Cl) (r : pR Cl) : pR (List Cl) := pB r acc fun c j l => if cs j = 159 then pTx cs n M k (acc ++ [c]) (j + 1) l else if n ≤ j then (true, j, l, acc ++ [c]) else (false, j, l, acc)
theorem aft_eq (cs : Nat → Nat) (n : Nat) (M : Nat → Nat → pR Cl) (k : Nat) (acc : List Cl) (i lv : Nat) : pTx cs n M (k + 1) acc i lv = aft cs n M k acc (M i lv) := rfl
/-- what the reader says of a text -/
def mQ (pl : Nat → Nat) (h0 : ah_T) (Q : Option Value → ah_T → Prop) (R : pR (List Cl)) : Prop :=
  (R.1 = true → ∀ h', mS h0 h' R.2.1 R.2.2.1 → Q (some (.int 1)) (ah_si h' 82 12 (-1))) ∧ (R.1 = false → ∀ h', mF h0 h' (pl R.2.1) → Q (some (.int 0)) (ah_si h' 82 12 (nI (pl R.2.1))))
theorem fine_12 (h : ah_T) (x : Int32) : f_X12_fine (ah_si h 82 12 x) = f_X12_fine h := by unfold f_X12_fine; rw [ah_i_sn (by omega)]
theorem fine_S {i lv : Nat} (q : mS h0 h i lv) : f_X12_fine h = 1 := by unfold f_X12_fine; rw [q.2.2.2, if_pos rfl]
theorem mr_loop {M : Nat → Nat → pR Cl} (t : Tk cs vs pl isV n h0) (n82 : ah_i h0 82 16 = nI n) (hM : lvP n M) (h1 : mRn cs vs pl isV n h0 mX12_readOne M) {Q : Option Value → ah_T → Prop} : ∀ (k x : Nat) (acc : List Cl) (r : pR Cl) (h : ah_T), x + k = 12 → pst pl h0 r h → (r.1 = true → r.2.1 ≤ n ∧ r.2.2.1 ≤ 50) → mQ pl h0 Q (aft cs n M k acc r) → Wp mX12_reads Q 0 0 34 [some (.ref 82), some (.int (nI x))] [] h := by
  have endF : ∀ {h : ah_T} {p : Nat} {x : Int32}, mF h0 h p → Q (some (.int 0)) (ah_si h 82 12 (nI p)) → Wp mX12_reads Q 0 0 34 [some (.ref 82), some (.int x)] [] h := by
    intro h p x w k
    refine T_X12_reads_34 w.1.1 x (mt_takesF w ⟨_, rfl, w.1.1, ?_⟩)
    (first | refine ⟨fun _ => ?_, fun n_ => absurd (show (0 : Int32) = 0 by rfl) n_⟩ | refine ⟨fun n_ => absurd (show (0 : Int32) = 0 by rfl) n_, fun _ => ?_⟩ | refine ⟨fun y_ => absurd y_ (show (0 : Int32) = 0 by rfl), fun _ => ?_⟩ | refine ⟨fun _ => ?_, fun y_ => absurd y_ (show (0 : Int32) = 0 by rfl)⟩)
    (first | refine ⟨fun _ => ?_, fun n_ => absurd (mF_fine w) n_⟩ | refine ⟨fun n_ => absurd (mF_fine w) n_, fun _ => ?_⟩ | refine ⟨fun y_ => absurd y_ (mF_fine w), fun _ => ?_⟩ | refine ⟨fun _ => ?_, fun y_ => absurd y_ (mF_fine w)⟩)
    rintro h24 rfl
    rw [fine_12, mF_fine w, w.2.2]
    exact k
  intro k
  induction k with
  | zero =>
    intro x acc r h hx p hr q
    cases e : r.1
    · have w := p.2 e
      refine endF w ?_
      have := q.2 (by unfold aft; rw [pB_f e]) h (by unfold aft; rw [pB_f e]; exact w)
      unfold aft at this
      rw [pB_f e] at this
      exact this
    · obtain ⟨r1, r2⟩ := hr e
      have w := p.1 e
      refine T_X12_reads_34 w.1.1 _ (mt_takesS t w r1 (k := 159) (sg 59 (by omega)) (by omega) (fun c h' w' => ⟨_, rfl, w'.1.1, ?_⟩) (fun c => ⟨_, rfl, w.1.1, ?_⟩))
      · (first | refine ⟨fun _ => ?_, fun n_ => absurd (show ¬ (1 : Int32) = 0 by decide) n_⟩ | refine ⟨fun n_ => absurd (show ¬ (1 : Int32) = 0 by decide) n_, fun _ => ?_⟩ | refine ⟨fun y_ => absurd y_ (show ¬ (1 : Int32) = 0 by decide), fun _ => ?_⟩ | refine ⟨fun _ => ?_, fun y_ => absurd y_ (show ¬ (1 : Int32) = 0 by decide)⟩)
        (first | refine ⟨fun _ => ?_, fun n_ => absurd (show nI x = 12 by rw [show x = 12 by omega]; rfl) n_⟩ | refine ⟨fun n_ => absurd (show nI x = 12 by rw [show x = 12 by omega]; rfl) n_, fun _ => ?_⟩ | refine ⟨fun y_ => absurd y_ (show nI x = 12 by rw [show x = 12 by omega]; rfl), fun _ => ?_⟩ | refine ⟨fun _ => ?_, fun y_ => absurd y_ (show nI x = 12 by rw [show x = 12 by omega]; rfl)⟩)
        have hin := lt_n t.2.1 r1 (show cs r.2.1 ≠ 0 by omega)
        refine mt_faultsS t w' hin (fun h2 w2 => ⟨rfl, w2.1.1, ?_⟩)
        (first | refine ⟨fun _ => ?_, fun n_ => absurd (mF_fine w2) n_⟩ | refine ⟨fun n_ => absurd (mF_fine w2) n_, fun _ => ?_⟩ | refine ⟨fun y_ => absurd y_ (mF_fine w2), fun _ => ?_⟩ | refine ⟨fun _ => ?_, fun y_ => absurd y_ (mF_fine w2)⟩)
        refine endF w2 ?_
        have e2 : aft cs n M 0 acc r = (false, r.2.1 + 1, r.2.2.1, acc ++ [r.2.2.2]) := by unfold aft; rw [pB_t e, if_pos c]; rfl
        rw [e2] at q
        exact q.2 rfl h2 w2
      · (first | refine ⟨fun _ => ?_, fun n_ => absurd (show (0 : Int32) = 0 by rfl) n_⟩ | refine ⟨fun n_ => absurd (show (0 : Int32) = 0 by rfl) n_, fun _ => ?_⟩ | refine ⟨fun y_ => absurd y_ (show (0 : Int32) = 0 by rfl), fun _ => ?_⟩ | refine ⟨fun _ => ?_, fun y_ => absurd y_ (show (0 : Int32) = 0 by rfl)⟩)
        have hn := t.1
        (first | refine ⟨fun _ => ?_, fun n_ => absurd (show ¬ f_X12_fine h = 0 from mS_fine w) n_⟩ | refine ⟨fun n_ => absurd (show ¬ f_X12_fine h = 0 from mS_fine w) n_, fun _ => ?_⟩ | refine ⟨fun y_ => absurd y_ (show ¬ f_X12_fine h = 0 from mS_fine w), fun _ => ?_⟩ | refine ⟨fun _ => ?_, fun y_ => absurd y_ (show ¬ f_X12_fine h = 0 from mS_fine w)⟩)
        have e16 : ah_i h 82 16 = nI n := by rw [w.1.2.2.2.1 16 (by omega)]; exact n82
        rw [e16, w.2.1]
        rcases Nat.lt_or_ge r.2.1 n with z | z
        · (first | refine ⟨fun _ => ?_, fun n_ => absurd (show ¬ nI n ≤ nI r.2.1 from nI_ge z (by omega)) n_⟩ | refine ⟨fun n_ => absurd (show ¬ nI n ≤ nI r.2.1 from nI_ge z (by omega)) n_, fun _ => ?_⟩ | refine ⟨fun y_ => absurd y_ (show ¬ nI n ≤ nI r.2.1 from nI_ge z (by omega)), fun _ => ?_⟩ | refine ⟨fun _ => ?_, fun y_ => absurd y_ (show ¬ nI n ≤ nI r.2.1 from nI_ge z (by omega))⟩)
          refine mt_faultsS t w r1 (fun h2 w2 => ⟨rfl, w2.1.1, ?_⟩)
          rintro h34 rfl
          rw [fine_12, mF_fine w2, w2.2.2]
          have e2 : aft cs n M 0 acc r = (false, r.2.1, r.2.2.1, acc) := by unfold aft; rw [pB_t e, if_neg c, if_neg (by omega)]
          rw [e2] at q
          exact q.2 rfl h2 w2
        · (first | refine ⟨fun _ => ?_, fun n_ => absurd (show nI n ≤ nI r.2.1 from nI_le z (by omega)) n_⟩ | refine ⟨fun n_ => absurd (show nI n ≤ nI r.2.1 from nI_le z (by omega)) n_, fun _ => ?_⟩ | refine ⟨fun y_ => absurd y_ (show nI n ≤ nI r.2.1 from nI_le z (by omega)), fun _ => ?_⟩ | refine ⟨fun _ => ?_, fun y_ => absurd y_ (show nI n ≤ nI r.2.1 from nI_le z (by omega))⟩)
          rintro h34 rfl
          rw [fine_12, fine_S w, w.2.2.2]
          have e2 : aft cs n M 0 acc r = (true, r.2.1, r.2.2.1, acc ++ [r.2.2.2]) := by unfold aft; rw [pB_t e, if_neg c, if_pos z]
          rw [e2] at q
          exact q.1 rfl h w
  | succ k ih =>
    intro x acc r h hx p hr q
    cases e : r.1
    · have w := p.2 e
      refine endF w ?_
      have := q.2 (by unfold aft; rw [pB_f e]) h (by unfold aft; rw [pB_f e]; exact w)
      unfold aft at this
      rw [pB_f e] at this
      exact this
    · obtain ⟨r1, r2⟩ := hr e
      have w := p.1 e
      refine T_X12_reads_34 w.1.1 _ (mt_takesS t w r1 (k := 159) (sg 59 (by omega)) (by omega) (fun c h' w' => ⟨_, rfl, w'.1.1, ?_⟩) (fun c => ⟨_, rfl, w.1.1, ?_⟩))
      · (first | refine ⟨fun _ => ?_, fun n_ => absurd (show ¬ (1 : Int32) = 0 by decide) n_⟩ | refine ⟨fun n_ => absurd (show ¬ (1 : Int32) = 0 by decide) n_, fun _ => ?_⟩ | refine ⟨fun y_ => absurd y_ (show ¬ (1 : Int32) = 0 by decide), fun _ => ?_⟩ | refine ⟨fun _ => ?_, fun y_ => absurd y_ (show ¬ (1 : Int32) = 0 by decide)⟩)
        (first | refine ⟨fun _ => ?_, fun n_ => absurd (show ¬ nI x = 12 by rw [n_12, nI_eq (by omega) (by omega)]; omega) n_⟩ | refine ⟨fun n_ => absurd (show ¬ nI x = 12 by rw [n_12, nI_eq (by omega) (by omega)]; omega) n_, fun _ => ?_⟩ | refine ⟨fun y_ => absurd y_ (show ¬ nI x = 12 by rw [n_12, nI_eq (by omega) (by omega)]; omega), fun _ => ?_⟩ | refine ⟨fun _ => ?_, fun y_ => absurd y_ (show ¬ nI x = 12 by rw [n_12, nI_eq (by omega) (by omega)]; omega)⟩)
        have hin := lt_n t.2.1 r1 (show cs r.2.1 ≠ 0 by omega)
        (first | refine ⟨fun _ => ?_, fun n_ => absurd (show ¬ f_X12_fine h' = 0 from mS_fine w') n_⟩ | refine ⟨fun n_ => absurd (show ¬ f_X12_fine h' = 0 from mS_fine w') n_, fun _ => ?_⟩ | refine ⟨fun y_ => absurd y_ (show ¬ f_X12_fine h' = 0 from mS_fine w'), fun _ => ?_⟩ | refine ⟨fun _ => ?_, fun y_ => absurd y_ (show ¬ f_X12_fine h' = 0 from mS_fine w')⟩)
        have e2 : aft cs n M (k + 1) acc r = aft cs n M k (acc ++ [r.2.2.2]) (M (r.2.1 + 1) r.2.2.1) := by unfold aft; rw [pB_t e, if_pos c]; rfl
        rw [e2] at q
        obtain ⟨o1, o2, o3⟩ := hM (r.2.1 + 1) r.2.2.1 hin r2
        refine h1 _ h' (r.2.1 + 1) r.2.2.1 hin r2 w' (fun h3 p3 => ⟨rfl, pst_Sh p3, ?_⟩)
        rw [nI_1]
        exact ih (x + 1) _ _ h3 (by omega) p3 (fun z => ⟨o1, (o3 z).2⟩) q
      · (first | refine ⟨fun _ => ?_, fun n_ => absurd (show (0 : Int32) = 0 by rfl) n_⟩ | refine ⟨fun n_ => absurd (show (0 : Int32) = 0 by rfl) n_, fun _ => ?_⟩ | refine ⟨fun y_ => absurd y_ (show (0 : Int32) = 0 by rfl), fun _ => ?_⟩ | refine ⟨fun _ => ?_, fun y_ => absurd y_ (show (0 : Int32) = 0 by rfl)⟩)
        have hn := t.1
        (first | refine ⟨fun _ => ?_, fun n_ => absurd (show ¬ f_X12_fine h = 0 from mS_fine w) n_⟩ | refine ⟨fun n_ => absurd (show ¬ f_X12_fine h = 0 from mS_fine w) n_, fun _ => ?_⟩ | refine ⟨fun y_ => absurd y_ (show ¬ f_X12_fine h = 0 from mS_fine w), fun _ => ?_⟩ | refine ⟨fun _ => ?_, fun y_ => absurd y_ (show ¬ f_X12_fine h = 0 from mS_fine w)⟩)
        have e16 : ah_i h 82 16 = nI n := by rw [w.1.2.2.2.1 16 (by omega)]; exact n82
        rw [e16, w.2.1]
        rcases Nat.lt_or_ge r.2.1 n with z | z
        · (first | refine ⟨fun _ => ?_, fun n_ => absurd (show ¬ nI n ≤ nI r.2.1 from nI_ge z (by omega)) n_⟩ | refine ⟨fun n_ => absurd (show ¬ nI n ≤ nI r.2.1 from nI_ge z (by omega)) n_, fun _ => ?_⟩ | refine ⟨fun y_ => absurd y_ (show ¬ nI n ≤ nI r.2.1 from nI_ge z (by omega)), fun _ => ?_⟩ | refine ⟨fun _ => ?_, fun y_ => absurd y_ (show ¬ nI n ≤ nI r.2.1 from nI_ge z (by omega))⟩)
          refine mt_faultsS t w r1 (fun h2 w2 => ⟨rfl, w2.1.1, ?_⟩)
          rintro h34 rfl
          rw [fine_12, mF_fine w2, w2.2.2]
          have e2 : aft cs n M (k + 1) acc r = (false, r.2.1, r.2.2.1, acc) := by unfold aft; rw [pB_t e, if_neg c, if_neg (by omega)]
          rw [e2] at q
          exact q.2 rfl h2 w2
        · (first | refine ⟨fun _ => ?_, fun n_ => absurd (show nI n ≤ nI r.2.1 from nI_le z (by omega)) n_⟩ | refine ⟨fun n_ => absurd (show nI n ≤ nI r.2.1 from nI_le z (by omega)) n_, fun _ => ?_⟩ | refine ⟨fun y_ => absurd y_ (show nI n ≤ nI r.2.1 from nI_le z (by omega)), fun _ => ?_⟩ | refine ⟨fun _ => ?_, fun y_ => absurd y_ (show nI n ≤ nI r.2.1 from nI_le z (by omega))⟩)
          rintro h34 rfl
          rw [fine_12, fine_S w, w.2.2.2]
          have e2 : aft cs n M (k + 1) acc r = (true, r.2.1, r.2.2.1, acc ++ [r.2.2.2]) := by unfold aft; rw [pB_t e, if_neg c, if_pos z]
          rw [e2] at q
          exact q.1 rfl h w
/-- the language that is read -/
def oneOf (ro : Bool) (cs vs : Nat → Nat) : Nat → Nat → pR Cl := if ro then pRnd cs vs (fun c => c == 14 || decide (16 ≤ c ∧ c ≤ 20)) else pLaw cs vs (fun c => decide (8 ≤ c ∧ c ≤ 15))
def isVof (ro : Bool) : Nat → Bool := if ro then (fun c => c == 14 || decide (16 ≤ c ∧ c ≤ 20)) else (fun c => decide (8 ≤ c ∧ c ≤ 15))
theorem oneOf_ok (ro : Bool) (h0 : cs n = 0) : lvP n (oneOf ro cs vs) := by
  cases ro
  · exact pLaw_ok h0 (by decide)
  · exact pRnd_ok h0 (by decide)
theorem mr_one {ro : Bool} (t : Tk cs vs pl (isVof ro) n h0) (e8 : ah_i h0 82 8 = bI ro) : mRn cs vs pl (isVof ro) n h0 mX12_readOne (oneOf ro cs vs) := by
  intro Q h i lv hi hl q k
  have e : ah_i h 82 8 = bI ro := by rw [q.1.2.2.2.1 8 (by omega)]; exact e8
  refine T_X12_readOne q.1.1 ?_
  rw [e]
  cases ro
  · (first | refine ⟨fun _ => ?_, fun n_ => absurd (show bI false = 0 by rfl) n_⟩ | refine ⟨fun n_ => absurd (show bI false = 0 by rfl) n_, fun _ => ?_⟩ | refine ⟨fun y_ => absurd y_ (show bI false = 0 by rfl), fun _ => ?_⟩ | refine ⟨fun _ => ?_, fun y_ => absurd y_ (show bI false = 0 by rfl)⟩)
    exact mr_clause t _ h i lv hi hl q (fun h' p => ⟨rfl, pst_Sh p, k h' p⟩)
  · (first | refine ⟨fun _ => ?_, fun n_ => absurd (show ¬ bI true = 0 by decide) n_⟩ | refine ⟨fun n_ => absurd (show ¬ bI true = 0 by decide) n_, fun _ => ?_⟩ | refine ⟨fun y_ => absurd y_ (show ¬ bI true = 0 by decide), fun _ => ?_⟩ | refine ⟨fun _ => ?_, fun y_ => absurd y_ (show ¬ bI true = 0 by decide)⟩)
    exact mr_round t _ h i lv hi hl q (fun h' p => ⟨rfl, pst_Sh p, k h' p⟩)
/-- the text's tokens, and what is read of them -/
theorem mr_text {ro : Bool} {Q : Option Value → ah_T → Prop} (t : Tk cs vs pl (isVof ro) n h0) (hs : Sh h0) (n82 : ah_i h0 82 16 = nI n) (e8 : ah_i h0 82 8 = bI ro) (e17 : ah_i h0 82 17 = 0) (e18 : ah_i h0 82 18 = 0) (e19 : ah_i h0 82 19 = -1)
    (q : mQ pl h0 Q (pTx cs n (oneOf ro cs vs) 12 [] 0 0)) : Mt mX12_readOne [.ref 82] h0 (ab_qv fun h16 => Sh h16 ∧ Wp mX12_reads Q 0 0 34 [some (.ref 82), some (.int 1)] [] h16) := by
  have ok := oneOf_ok (vs := vs) ro t.2.1
  obtain ⟨o1, o2, o3⟩ := ok 0 0 (Nat.zero_le _) (Nat.zero_le _)
  exact mr_one t e8 _ h0 0 0 (Nat.zero_le _) (Nat.zero_le _) ⟨fr82_rfl hs, e17, e18, e19⟩ (fun h' p => ⟨rfl, pst_Sh p, mr_loop t n82 ok (mr_one t e8) 11 1 [] _ h' (by omega) p (fun e => ⟨o1, (o3 e).2⟩) q⟩)
end RD
