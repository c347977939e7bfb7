/-! ===== the model's reader: parts, sums, tests ===== -/
section RD
variable {cs vs pl : Nat → Nat} {isV : Nat → Bool} {n : Nat} {h0 h : ah_T}
theorem mr_part {d dp : Nat} {rec : Option (Nat → Nat → pR Mg)} (t : Tk cs vs pl isV n h0) (hd : 8 ≤ d) (hdp : dp ≤ 8) (hnone : rec = none → dp = 8) (hsome : ∀ f, rec = some f → dp < 8 ∧ lvO n f ∧ mRd cs vs pl isV n h0 (mX12_readSum (d - 1)) (nI (dp + 1)) f) : mRd cs vs pl isV n h0 (mX12_readPart d) (nI dp) (pPart cs vs isV rec) := by
  refine ⟨fun Q h i lv hi hl q hq => ?_, fun Q h p q hq => ?_⟩
  · have t' := Tk_fr q.1 t
    obtain ⟨c1, c2, c3, c4, c5, c6⟩ := t'.2.2.2.1 i hi
    have h400 := t'.1
    have v90 : vp_in (nI i) (ah_n h 90) := by rw [sh_n q.1.1 90 401 (by decide) (by decide) rfl]; exact (vp_nI (by omega)).mpr (by omega)
    have v91 : vp_in (nI i) (ah_n h 91) := by rw [sh_n q.1.1 91 401 (by decide) (by decide) rfl]; exact (vp_nI (by omega)).mpr (by omega)
    refine T_X12_readPart hd q.1.1 _ ?_
    (first | refine ⟨fun _ => ?_, fun n_ => absurd (mS_fine q) n_⟩ | refine ⟨fun n_ => absurd (mS_fine q) n_, fun _ => ?_⟩ | refine ⟨fun y_ => absurd y_ (mS_fine q), fun _ => ?_⟩ | refine ⟨fun _ => ?_, fun y_ => absurd y_ (mS_fine q)⟩)
    rw [q.2.1, nI_clamp (by omega), c1, c2, show f_X12_sign 91 = nI 191 from rfl, show f_X12_sign 93 = nI 193 from rfl]
    refine ⟨v90, ?_⟩
    unfold pPart at hq
    by_cases z : cs i = 191
    · rw [if_pos z] at hq
      have hin : i < n := by
        rcases Nat.lt_or_ge i n with k | k
        · exact k
        · have : i = n := by omega
          rw [this, t.2.1] at z
          omega
      (first | refine ⟨fun _ => ?_, fun n_ => absurd (show nI (cs i) = nI 191 by rw [z]) n_⟩ | refine ⟨fun n_ => absurd (show nI (cs i) = nI 191 by rw [z]) n_, fun _ => ?_⟩ | refine ⟨fun y_ => absurd y_ (show nI (cs i) = nI 191 by rw [z]), fun _ => ?_⟩ | refine ⟨fun _ => ?_, fun y_ => absurd y_ (show nI (cs i) = nI 191 by rw [z])⟩)
      cases rec with
      | none =>
        have e8 := hnone rfl
        subst e8
        (first | refine ⟨fun _ => ?_, fun n_ => absurd (show nI 8 = 8 by rfl) n_⟩ | refine ⟨fun n_ => absurd (show nI 8 = 8 by rfl) n_, fun _ => ?_⟩ | refine ⟨fun y_ => absurd y_ (show nI 8 = 8 by rfl), fun _ => ?_⟩ | refine ⟨fun _ => ?_, fun y_ => absurd y_ (show nI 8 = 8 by rfl)⟩)
        refine mt_faultsS t q hi (fun h35 w => ⟨rfl, w.1.1, ?_⟩)
        (first | refine ⟨fun _ => ?_, fun n_ => absurd (mF_fine w) n_⟩ | refine ⟨fun n_ => absurd (mF_fine w) n_, fun _ => ?_⟩ | refine ⟨fun y_ => absurd y_ (mF_fine w), fun _ => ?_⟩ | refine ⟨fun _ => ?_, fun y_ => absurd y_ (mF_fine w)⟩)
        exact hq _ ⟨fun y => absurd (show false = true from y) (by decide), fun _ => w⟩
      | some f =>
        obtain ⟨hlt, okf, hf⟩ := hsome f rfl
        dsimp only at hq
        (first | refine ⟨fun _ => ?_, fun n_ => absurd (show ¬ nI dp = 8 by rw [n_8, nI_eq (by omega) (by omega)]; omega) n_⟩ | refine ⟨fun n_ => absurd (show ¬ nI dp = 8 by rw [n_8, nI_eq (by omega) (by omega)]; omega) n_, fun _ => ?_⟩ | refine ⟨fun y_ => absurd y_ (show ¬ nI dp = 8 by rw [n_8, nI_eq (by omega) (by omega)]; omega), fun _ => ?_⟩ | refine ⟨fun _ => ?_, fun y_ => absurd y_ (show ¬ nI dp = 8 by rw [n_8, nI_eq (by omega) (by omega)]; omega)⟩)
        (first | refine ⟨fun _ => ?_, fun n_ => absurd (mS_fine q) n_⟩ | refine ⟨fun n_ => absurd (mS_fine q) n_, fun _ => ?_⟩ | refine ⟨fun y_ => absurd y_ (mS_fine q), fun _ => ?_⟩ | refine ⟨fun _ => ?_, fun y_ => absurd y_ (mS_fine q)⟩)
        rw [nI_1, nI_1]
        rintro h26 rfl
        have q2 : mS h0 (ah_si h 82 17 (nI (i + 1))) (i + 1) lv := ⟨fr82_set q.1 (.inl rfl), ah_i_ss, by rw [ah_i_sn (by omega)]; exact q.2.2.1, by rw [ah_i_sn (by omega)]; exact q.2.2.2⟩
        obtain ⟨e1, e2, e3⟩ := okf (i + 1) lv (by omega) hl
        refine hf.1 _ _ (i + 1) lv (by omega) hl q2 (fun h29 w => ⟨rfl, pst_Sh w, ?_⟩)
        by_cases c : (f (i + 1) lv).1 = true
        · rw [if_pos c] at hq
          refine mt_mustS t (w.1 c) e1 rfl (by decide) (fun c3 h32 w2 => ⟨rfl, w2.1.1, ?_⟩) (fun c3 h32 w2 => ⟨rfl, w2.1.1, ?_⟩)
          · rw [if_pos c3] at hq
            exact hq _ ⟨fun _ => w2, fun y => absurd (show true = false from y) (by decide)⟩
          · rw [if_neg c3] at hq
            exact hq _ ⟨fun y => absurd (show false = true from y) (by decide), fun _ => w2⟩
        · rw [if_neg c] at hq
          have w2 := w.2 (Bool.eq_false_iff.mpr c)
          exact mt_mustF w2 ⟨rfl, w2.1.1, hq _ w⟩
    · rw [if_neg z] at hq
      (first | refine ⟨fun _ => ?_, fun n_ => absurd (show ¬ nI (cs i) = nI 191 by rw [nI_eq (by omega) (by omega)]; exact z) n_⟩ | refine ⟨fun n_ => absurd (show ¬ nI (cs i) = nI 191 by rw [nI_eq (by omega) (by omega)]; exact z) n_, fun _ => ?_⟩ | refine ⟨fun y_ => absurd y_ (show ¬ nI (cs i) = nI 191 by rw [nI_eq (by omega) (by omega)]; exact z), fun _ => ?_⟩ | refine ⟨fun _ => ?_, fun y_ => absurd y_ (show ¬ nI (cs i) = nI 191 by rw [nI_eq (by omega) (by omega)]; exact z)⟩)
      have hv : f_X12_isValue h (nI (cs i)) = 0 ↔ isV (cs i) = false := t'.2.2.2.2 (cs i) c4
      have leaf : ((cs i = 50 ∧ vs i ≤ 1000) ∨ isV (cs i) = true) → Mt mX12_leaf [.ref 82] h (ab_qv fun h9 => Sh h9 ∧ Q none h9) := by
        intro k
        rw [if_pos k] at hq
        refine mt_leafS t q hi hl (fun l5 h' w => ⟨rfl, w.1.1, ?_⟩) (fun l5 h' w => ⟨rfl, w.1.1, ?_⟩)
        · rw [if_neg l5] at hq
          exact hq _ ⟨fun _ => w, fun y => absurd (show true = false from y) (by decide)⟩
        · rw [if_pos l5] at hq
          exact hq _ ⟨fun y => absurd (show false = true from y) (by decide), fun _ => w⟩
      have flt : ¬ ((cs i = 50 ∧ vs i ≤ 1000) ∨ isV (cs i) = true) → Mt mX12_faults [.ref 82] h (ab_qv fun h9 => Sh h9 ∧ Q none h9) := by
        intro k
        rw [if_neg k] at hq
        exact mt_faultsS t q hi (fun h' w => ⟨rfl, w.1.1, hq _ ⟨fun y => absurd (show false = true from y) (by decide), fun _ => w⟩⟩)
      have val : ¬ (cs i = 50 ∧ vs i ≤ 1000) → ((f_X12_isValue h (nI (cs i)) = 0 → (Mt mX12_faults [.ref 82] h (ab_qv fun h6 => Sh h6 ∧ Q none h6))) ∧ (¬ f_X12_isValue h (nI (cs i)) = 0 → (Mt mX12_leaf [.ref 82] h (ab_qv fun h9 => Sh h9 ∧ Q none h9)))) := by
        intro k
        refine ⟨fun y => flt ?_, fun y => leaf (.inr ?_)⟩
        · rintro (u | u)
          · exact k u
          · rw [hv.mp y] at u; exact absurd u (by decide)
        · cases u : isV (cs i)
          · exact absurd (hv.mpr u) y
          · rfl
      by_cases z5 : cs i = 50
      · (first | refine ⟨fun _ => ?_, fun n_ => absurd (show nI (cs i) = 50 by rw [z5]; rfl) n_⟩ | refine ⟨fun n_ => absurd (show nI (cs i) = 50 by rw [z5]; rfl) n_, fun _ => ?_⟩ | refine ⟨fun y_ => absurd y_ (show nI (cs i) = 50 by rw [z5]; rfl), fun _ => ?_⟩ | refine ⟨fun _ => ?_, fun y_ => absurd y_ (show nI (cs i) = 50 by rw [z5]; rfl)⟩)
        refine ⟨v91, fun y => leaf (.inl ⟨z5, ?_⟩), fun y => val (fun u => y ?_)⟩
        · exact (nI_leI (b := 1000) (by omega) (by omega)).mp y
        · exact nI_le (b := 1000) u.2 (by omega)
      · (first | refine ⟨fun _ => ?_, fun n_ => absurd (show ¬ nI (cs i) = 50 by rw [n_50, nI_eq (by omega) (by omega)]; exact z5) n_⟩ | refine ⟨fun n_ => absurd (show ¬ nI (cs i) = 50 by rw [n_50, nI_eq (by omega) (by omega)]; exact z5) n_, fun _ => ?_⟩ | refine ⟨fun y_ => absurd y_ (show ¬ nI (cs i) = 50 by rw [n_50, nI_eq (by omega) (by omega)]; exact z5), fun _ => ?_⟩ | refine ⟨fun _ => ?_, fun y_ => absurd y_ (show ¬ nI (cs i) = 50 by rw [n_50, nI_eq (by omega) (by omega)]; exact z5)⟩)
        exact val (fun u => z5 u.1)
  · refine T_X12_readPart hd q.1.1 _ ?_
    (first | refine ⟨fun _ => ?_, fun n_ => absurd (mF_fine q) n_⟩ | refine ⟨fun n_ => absurd (mF_fine q) n_, fun _ => ?_⟩ | refine ⟨fun y_ => absurd y_ (mF_fine q), fun _ => ?_⟩ | refine ⟨fun _ => ?_, fun y_ => absurd y_ (mF_fine q)⟩)
    exact hq
/-- a sum is read with so many brackets left -/
theorem mr_Sum (t : Tk cs vs pl isV n h0) : ∀ (e d : Nat), e ≤ 8 → 12 + 3 * e ≤ d → mRd cs vs pl isV n h0 (mX12_readSum d) (nI (8 - e)) (pSum cs vs isV e) := by
  intro e
  induction e with
  | zero =>
    intro d he hd
    have hr : ∀ f, (none : Option (Nat → Nat → pR Mg)) = some f → lvO n f := fun f q => by cases q
    exact mr_sum (rec := none) t (by omega) hr (mr_term t (by omega) hr (mr_part t (by omega) (by omega) (fun _ => rfl) (fun f q => by cases q)))
  | succ e ih =>
    intro d he hd
    have ok := pSum_ok (vs := vs) (isV := isV) t.2.1 t.2.2.1 e
    have hr : ∀ f, (some (pSum cs vs isV e)) = some f → lvO n f := fun f q => by cases q; exact ok
    have h1 := ih (d - 1 - 1 - 1) (by omega) (by omega)
    have hp : mRd cs vs pl isV n h0 (mX12_readPart (d - 1 - 1)) (nI (8 - (e + 1))) (pPart cs vs isV (some (pSum cs vs isV e))) := mr_part t (by omega) (by omega) (fun q => by cases q) (fun f q => by
      cases q
      refine ⟨by omega, ok, ?_⟩
      rw [show 8 - (e + 1) + 1 = 8 - e by omega]
      exact h1)
    exact mr_sum (rec := some (pSum cs vs isV e)) t (by omega) hr (mr_term t (by omega) hr hp)
/-! ## tests -/
theorem nots_le : ∀ (k i : Nat), i ≤ n → cs n = 0 → i + nots cs k i ≤ n
  | 0, i, hi, _ => hi
  | k + 1, i, hi, h0 => by
    unfold nots
    by_cases c : cs i = 7
    · rw [if_pos c]
      have : i < n := by
        rcases Nat.lt_or_ge i n with z | z
        · exact z
        · have : i = n := by omega
          rw [this, h0] at c
          omega
      have := nots_le k (i + 1) (by omega) h0
      omega
    · rw [if_neg c]; exact hi
theorem nots_end : ∀ (k i : Nat), i ≤ n → cs n = 0 → n - i < k → cs (i + nots cs k i) ≠ 7
  | 0, i, _, _, h => by omega
  | k + 1, i, hi, h0, hk => by
    unfold nots
    by_cases c : cs i = 7
    · rw [if_pos c]
      have : i < n := by
        rcases Nat.lt_or_ge i n with z | z
        · exact z
        · have : i = n := by omega
          rw [this, h0] at c
          omega
      have := nots_end k (i + 1) (by omega) h0 (by omega)
      rwa [show i + 1 + nots cs k (i + 1) = i + (nots cs k (i + 1) + 1) by omega] at this
    · rw [if_neg c]; exact c
theorem pPos_ok (h0 : cs n = 0) (hV : isV 0 = false) {e : Nat} {rec : Option (Nat → Nat → pR Tg)} (hr : ∀ f, rec = some f → lvO n f) : lvO n (pPos cs vs isV e rec) := by
  intro i lv hi hl
  have okS := pSum_ok (vs := vs) h0 hV e
  unfold pPos
  by_cases c : cs i = 140
  · have hin : i < n := by
      rcases Nat.lt_or_ge i n with q | q
      · exact q
      · have : i = n := by omega
        rw [this, h0] at c
        omega
    rw [if_pos c]
    cases rec with
    | none => exact ⟨hi, Nat.le_refl _, fun q => absurd (show false = true from q) (by decide)⟩
    | some f =>
      obtain ⟨e1, e2, e3⟩ := hr f rfl (i + 1) lv (by omega) hl
      dsimp only
      by_cases c2 : (f (i + 1) lv).1 = true
      · obtain ⟨e4, e5, e6⟩ := e3 c2
        rw [if_pos c2]
        by_cases c3 : cs (f (i + 1) lv).2.1 = 141
        · rw [if_pos c3]
          have : (f (i + 1) lv).2.1 < n := by
            rcases Nat.lt_or_ge (f (i + 1) lv).2.1 n with q | q
            · exact q
            · have : (f (i + 1) lv).2.1 = n := by omega
              rw [this] at c3
              omega
          exact ⟨by show _ + 1 ≤ n; omega, by show i ≤ _ + 1; omega, fun _ => ⟨by show i < _ + 1; omega, e5, e6⟩⟩
        · rw [if_neg c3]
          exact ⟨e1, by show i ≤ (f (i + 1) lv).2.1; omega, fun q => absurd (show false = true from q) (by decide)⟩
      · rw [if_neg c2]
        exact ⟨e1, by omega, fun q => absurd q c2⟩
  · rw [if_neg c]
    obtain ⟨e1, e2, e3⟩ := okS i lv hi hl
    by_cases c2 : (pSum cs vs isV e i lv).1 = true
    · obtain ⟨e4, e5, e6⟩ := e3 c2
      rw [if_pos c2]
      by_cases c3 : isCmp (cs (pSum cs vs isV e i lv).2.1) = true
      · rw [if_pos c3]
        have hlt : (pSum cs vs isV e i lv).2.1 < n := by
          rcases Nat.lt_or_ge (pSum cs vs isV e i lv).2.1 n with q | q
          · exact q
          · have : (pSum cs vs isV e i lv).2.1 = n := by omega
            rw [this, h0] at c3
            exact absurd c3 (by decide)
        obtain ⟨g1, g2, g3⟩ := okS ((pSum cs vs isV e i lv).2.1 + 1) (pSum cs vs isV e i lv).2.2.1 (by omega) e6
        by_cases c4 : (pSum cs vs isV e ((pSum cs vs isV e i lv).2.1 + 1) (pSum cs vs isV e i lv).2.2.1).1 = true
        · obtain ⟨g4, g5, g6⟩ := g3 c4
          rw [if_pos c4]
          exact ⟨g1, Nat.le_trans e2 (Nat.le_trans (Nat.le_succ _) g2), fun _ => ⟨Nat.lt_of_lt_of_le e4 (Nat.le_trans (Nat.le_succ _) g2), Nat.le_trans e5 g5, g6⟩⟩
        · rw [if_neg c4]
          exact ⟨g1, Nat.le_trans e2 (Nat.le_trans (Nat.le_succ _) g2), fun q => absurd (show false = true from q) (by decide)⟩
      · rw [if_neg c3]
        exact ⟨e1, e2, fun q => absurd (show false = true from q) (by decide)⟩
    · rw [if_neg c2]
      exact ⟨e1, e2, fun q => absurd (show false = true from q) (by decide)⟩
theorem pPlain_ok (h0 : cs n = 0) (hV : isV 0 = false) {e : Nat} {rec : Option (Nat → Nat → pR Tg)} (hr : ∀ f, rec = some f → lvO n f) : lvO n (pPlain cs vs isV e rec) := by
  intro i lv hi hl
  have hn := nots_le (cs := cs) 401 i hi h0
  obtain ⟨e1, e2, e3⟩ := pPos_ok (vs := vs) (e := e) h0 hV hr (i + nots cs 401 i) lv hn hl
  exact ⟨e1, by show i ≤ (pPos cs vs isV e rec (i + nots cs 401 i) lv).2.1; omega, fun q => by
    obtain ⟨e4, e5, e6⟩ := e3 q
    exact ⟨by show i < (pPos cs vs isV e rec (i + nots cs 401 i) lv).2.1; omega, e5, e6⟩⟩
theorem pBoth_ok (h0 : cs n = 0) (hV : isV 0 = false) {e : Nat} {rec : Option (Nat → Nat → pR Tg)} (hr : ∀ f, rec = some f → lvO n f) : lvO n (pBoth cs vs isV e rec) := pChain_ok (by rw [h0]; rfl) (pPlain_ok h0 hV hr)
theorem pTest0_ok (h0 : cs n = 0) (hV : isV 0 = false) {e : Nat} {rec : Option (Nat → Nat → pR Tg)} (hr : ∀ f, rec = some f → lvO n f) : lvO n (pTest0 cs vs isV e rec) := pChain_ok (by rw [h0]; rfl) (pBoth_ok h0 hV hr)
theorem pTest_ok (h0 : cs n = 0) (hV : isV 0 = false) : ∀ e, lvO n (pTest cs vs isV e)
  | 0 => pTest0_ok h0 hV (fun f q => by cases q)
  | e + 1 => pTest0_ok h0 hV (fun f q => by cases q; exact pTest_ok h0 hV e)
end RD
