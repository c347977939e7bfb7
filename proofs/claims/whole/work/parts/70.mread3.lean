/-! ===== the model's reader: tests, clauses ===== -/
section RD
variable {cs vs pl : Nat → Nat} {isV : Nat → Bool} {n : Nat} {h0 h : ah_T}
theorem mr_plain {d dp e : Nat} {rec : Option (Nat → Nat → pR Tg)} (t : Tk cs vs pl isV n h0) (hd : 8 ≤ d) (hdp : dp ≤ 8) (hs : mRd cs vs pl isV n h0 (mX12_readSum (d - 1)) (nI dp) (pSum cs vs isV e)) (hnone : rec = none → dp = 8) (hsome : ∀ f, rec = some f → dp < 8 ∧ lvO n f ∧ mRd cs vs pl isV n h0 (mX12_readTest (d - 1)) (nI (dp + 1)) f) : mRd cs vs pl isV n h0 (mX12_readPlain d) (nI dp) (pPlain cs vs isV e rec) := by
  have h400 := t.1
  have tailF : ∀ (Q : Option Value → ah_T → Prop) (h : ah_T) (p : Nat), mF h0 h p → Q none h → Wp (mX12_readPlain d) Q 0 0 2 [some (.ref 82), some (.int (nI dp)), some (.int 0), none] [] h := by
    intro Q h p q hq
    refine T_X12_readPlain_2 hd q.1.1 _ _ ?_
    (first | refine ⟨fun _ => ?_, fun n_ => absurd (show (0 : Int32) = 0 by rfl) n_⟩ | refine ⟨fun n_ => absurd (show (0 : Int32) = 0 by rfl) n_, fun _ => ?_⟩ | refine ⟨fun y_ => absurd y_ (show (0 : Int32) = 0 by rfl), fun _ => ?_⟩ | refine ⟨fun _ => ?_, fun y_ => absurd y_ (show (0 : Int32) = 0 by rfl)⟩)
    (first | refine ⟨fun _ => ?_, fun n_ => absurd (mF_fine q) n_⟩ | refine ⟨fun n_ => absurd (mF_fine q) n_, fun _ => ?_⟩ | refine ⟨fun y_ => absurd y_ (mF_fine q), fun _ => ?_⟩ | refine ⟨fun _ => ?_, fun y_ => absurd y_ (mF_fine q)⟩)
    exact hq
  have tail : ∀ (Q : Option Value → ah_T → Prop) (h : ah_T) (i lv : Nat), i ≤ n → lv ≤ 50 → mS h0 h i lv → (∀ h', pst pl h0 (pPos cs vs isV e rec i lv) h' → Q none h') → Wp (mX12_readPlain d) Q 0 0 2 [some (.ref 82), some (.int (nI dp)), some (.int 0), none] [] h := by
    intro Q h i lv hi hl q hq
    have t' := Tk_fr q.1 t
    obtain ⟨c1, c2, c3, c4, c5, c6⟩ := t'.2.2.2.1 i hi
    have v90 : vp_in (nI i) (ah_n h 90) := by rw [sh_n q.1.1 90 401 (by decide) (by decide) rfl]; exact (vp_nI (by omega)).mpr (by omega)
    refine T_X12_readPlain_2 hd q.1.1 _ _ ?_
    (first | refine ⟨fun _ => ?_, fun n_ => absurd (show (0 : Int32) = 0 by rfl) n_⟩ | refine ⟨fun n_ => absurd (show (0 : Int32) = 0 by rfl) n_, fun _ => ?_⟩ | refine ⟨fun y_ => absurd y_ (show (0 : Int32) = 0 by rfl), fun _ => ?_⟩ | refine ⟨fun _ => ?_, fun y_ => absurd y_ (show (0 : Int32) = 0 by rfl)⟩)
    (first | refine ⟨fun _ => ?_, fun n_ => absurd (mS_fine q) n_⟩ | refine ⟨fun n_ => absurd (mS_fine q) n_, fun _ => ?_⟩ | refine ⟨fun y_ => absurd y_ (mS_fine q), fun _ => ?_⟩ | refine ⟨fun _ => ?_, fun y_ => absurd y_ (mS_fine q)⟩)
    rw [q.2.1, nI_clamp (by omega), c1, show f_X12_sign 40 = nI 140 from rfl, show f_X12_sign 41 = nI 141 from rfl, show f_X12_sign 60 = nI 160 from rfl, show f_X12_sign 61 = nI 161 from rfl, show f_X12_sign 62 = nI 162 from rfl]
    refine ⟨v90, ?_⟩
    unfold pPos at hq
    by_cases z : cs i = 140
    · rw [if_pos z] at hq
      have hin : i < n := by
        rcases Nat.lt_or_ge i n with k | k
        · exact k
        · have : i = n := by omega
          rw [this, t.2.1] at z
          omega
      (first | refine ⟨fun _ => ?_, fun n_ => absurd (show nI (cs i) = nI 140 by rw [z]) n_⟩ | refine ⟨fun n_ => absurd (show nI (cs i) = nI 140 by rw [z]) n_, fun _ => ?_⟩ | refine ⟨fun y_ => absurd y_ (show nI (cs i) = nI 140 by rw [z]), fun _ => ?_⟩ | refine ⟨fun _ => ?_, fun y_ => absurd y_ (show nI (cs i) = nI 140 by rw [z])⟩)
      cases rec with
      | none =>
        have e8 := hnone rfl
        subst e8
        (first | refine ⟨fun _ => ?_, fun n_ => absurd (show nI 8 = 8 by rfl) n_⟩ | refine ⟨fun n_ => absurd (show nI 8 = 8 by rfl) n_, fun _ => ?_⟩ | refine ⟨fun y_ => absurd y_ (show nI 8 = 8 by rfl), fun _ => ?_⟩ | refine ⟨fun _ => ?_, fun y_ => absurd y_ (show nI 8 = 8 by rfl)⟩)
        refine mt_faultsS t q hi (fun h35 w => ⟨rfl, w.1.1, ?_⟩)
        (first | refine ⟨fun _ => ?_, fun n_ => absurd (mF_fine w) n_⟩ | refine ⟨fun n_ => absurd (mF_fine w) n_, fun _ => ?_⟩ | refine ⟨fun y_ => absurd y_ (mF_fine w), fun _ => ?_⟩ | refine ⟨fun _ => ?_, fun y_ => absurd y_ (mF_fine w)⟩)
        exact hq _ ⟨fun y => absurd (show false = true from y) (by decide), fun _ => w⟩
      | some f =>
        obtain ⟨hlt, okf, hf⟩ := hsome f rfl
        dsimp only at hq
        (first | refine ⟨fun _ => ?_, fun n_ => absurd (show ¬ nI dp = 8 by rw [n_8, nI_eq (by omega) (by omega)]; omega) n_⟩ | refine ⟨fun n_ => absurd (show ¬ nI dp = 8 by rw [n_8, nI_eq (by omega) (by omega)]; omega) n_, fun _ => ?_⟩ | refine ⟨fun y_ => absurd y_ (show ¬ nI dp = 8 by rw [n_8, nI_eq (by omega) (by omega)]; omega), fun _ => ?_⟩ | refine ⟨fun _ => ?_, fun y_ => absurd y_ (show ¬ nI dp = 8 by rw [n_8, nI_eq (by omega) (by omega)]; omega)⟩)
        (first | refine ⟨fun _ => ?_, fun n_ => absurd (mS_fine q) n_⟩ | refine ⟨fun n_ => absurd (mS_fine q) n_, fun _ => ?_⟩ | refine ⟨fun y_ => absurd y_ (mS_fine q), fun _ => ?_⟩ | refine ⟨fun _ => ?_, fun y_ => absurd y_ (mS_fine q)⟩)
        rw [nI_1, nI_1]
        rintro h26 rfl
        have q2 : mS h0 (ah_si h 82 17 (nI (i + 1))) (i + 1) lv := ⟨fr82_set q.1 (.inl rfl), ah_i_ss, by rw [ah_i_sn (by omega)]; exact q.2.2.1, by rw [ah_i_sn (by omega)]; exact q.2.2.2⟩
        obtain ⟨e1, e2, e3⟩ := okf (i + 1) lv (by omega) hl
        refine hf.1 _ _ (i + 1) lv (by omega) hl q2 (fun h29 w => ⟨rfl, pst_Sh w, ?_⟩)
        by_cases c : (f (i + 1) lv).1 = true
        · rw [if_pos c] at hq
          refine mt_mustS t (w.1 c) e1 rfl (by decide) (fun c3 h32 w2 => ⟨rfl, w2.1.1, ?_⟩) (fun c3 h32 w2 => ⟨rfl, w2.1.1, ?_⟩)
          · rw [if_pos c3] at hq
            exact hq _ ⟨fun _ => w2, fun y => absurd (show true = false from y) (by decide)⟩
          · rw [if_neg c3] at hq
            exact hq _ ⟨fun y => absurd (show false = true from y) (by decide), fun _ => w2⟩
        · rw [if_neg c] at hq
          have w2 := w.2 (Bool.eq_false_iff.mpr c)
          exact mt_mustF w2 ⟨rfl, w2.1.1, hq _ w⟩
    · rw [if_neg z] at hq
      (first | refine ⟨fun _ => ?_, fun n_ => absurd (show ¬ nI (cs i) = nI 140 by rw [nI_eq (by omega) (by omega)]; exact z) n_⟩ | refine ⟨fun n_ => absurd (show ¬ nI (cs i) = nI 140 by rw [nI_eq (by omega) (by omega)]; exact z) n_, fun _ => ?_⟩ | refine ⟨fun y_ => absurd y_ (show ¬ nI (cs i) = nI 140 by rw [nI_eq (by omega) (by omega)]; exact z), fun _ => ?_⟩ | refine ⟨fun _ => ?_, fun y_ => absurd y_ (show ¬ nI (cs i) = nI 140 by rw [nI_eq (by omega) (by omega)]; exact z)⟩)
      have okS := pSum_ok (vs := vs) (isV := isV) t.2.1 t.2.2.1 e
      obtain ⟨e1, e2, e3⟩ := okS i lv hi hl
      refine hs.1 _ _ i lv hi hl q (fun h5 w => ⟨rfl, pst_Sh w, ?_⟩)
      by_cases c : (pSum cs vs isV e i lv).1 = true
      · rw [if_pos c] at hq
        obtain ⟨e4, e5, e6⟩ := e3 c
        have w1 := w.1 c
        have sec : isCmp (cs (pSum cs vs isV e i lv).2.1) = true → ∀ h8, mS h0 h8 ((pSum cs vs isV e i lv).2.1 + 1) (pSum cs vs isV e i lv).2.2.1 → Mt (mX12_readSum (d - 1)) [.ref 82, .int (nI dp)] h8 (ab_qv fun h12 => Sh h12 ∧ Q none h12) := by
          intro k h8 w8
          rw [if_pos k] at hq
          have hlt : (pSum cs vs isV e i lv).2.1 < n := by
            rcases Nat.lt_or_ge (pSum cs vs isV e i lv).2.1 n with y | y
            · exact y
            · have : (pSum cs vs isV e i lv).2.1 = n := by omega
              rw [this, t.2.1] at k
              exact absurd k (by decide)
          refine hs.1 _ _ _ _ (by omega) e6 w8 (fun h12 w12 => ⟨rfl, pst_Sh w12, ?_⟩)
          by_cases c4 : (pSum cs vs isV e ((pSum cs vs isV e i lv).2.1 + 1) (pSum cs vs isV e i lv).2.2.1).1 = true
          · rw [if_pos c4] at hq
            exact hq _ ⟨fun _ => w12.1 c4, fun y => absurd (show true = false from y) (by decide)⟩
          · rw [if_neg c4] at hq
            exact hq _ ⟨fun y => absurd (show false = true from y) (by decide), fun _ => w12.2 (Bool.eq_false_iff.mpr c4)⟩
        refine mt_takesS t w1 e1 rfl (by decide) (fun k h8 w8 => ⟨_, rfl, w8.1.1, ?_⟩) (fun k => ⟨_, rfl, w1.1.1, ?_⟩)
        · (first | refine ⟨fun _ => ?_, fun n_ => absurd (show ¬ (1 : Int32) = 0 by decide) n_⟩ | refine ⟨fun n_ => absurd (show ¬ (1 : Int32) = 0 by decide) n_, fun _ => ?_⟩ | refine ⟨fun y_ => absurd y_ (show ¬ (1 : Int32) = 0 by decide), fun _ => ?_⟩ | refine ⟨fun _ => ?_, fun y_ => absurd y_ (show ¬ (1 : Int32) = 0 by decide)⟩)
          exact sec (by rw [k]; rfl) h8 w8
        · (first | refine ⟨fun _ => ?_, fun n_ => absurd (show (0 : Int32) = 0 by rfl) n_⟩ | refine ⟨fun n_ => absurd (show (0 : Int32) = 0 by rfl) n_, fun _ => ?_⟩ | refine ⟨fun y_ => absurd y_ (show (0 : Int32) = 0 by rfl), fun _ => ?_⟩ | refine ⟨fun _ => ?_, fun y_ => absurd y_ (show (0 : Int32) = 0 by rfl)⟩)
          refine mt_takesS t w1 e1 rfl (by decide) (fun k2 h8 w8 => ⟨_, rfl, w8.1.1, ?_⟩) (fun k2 => ⟨_, rfl, w1.1.1, ?_⟩)
          · (first | refine ⟨fun _ => ?_, fun n_ => absurd (show ¬ (1 : Int32) = 0 by decide) n_⟩ | refine ⟨fun n_ => absurd (show ¬ (1 : Int32) = 0 by decide) n_, fun _ => ?_⟩ | refine ⟨fun y_ => absurd y_ (show ¬ (1 : Int32) = 0 by decide), fun _ => ?_⟩ | refine ⟨fun _ => ?_, fun y_ => absurd y_ (show ¬ (1 : Int32) = 0 by decide)⟩)
            exact sec (by rw [k2]; rfl) h8 w8
          · (first | refine ⟨fun _ => ?_, fun n_ => absurd (show (0 : Int32) = 0 by rfl) n_⟩ | refine ⟨fun n_ => absurd (show (0 : Int32) = 0 by rfl) n_, fun _ => ?_⟩ | refine ⟨fun y_ => absurd y_ (show (0 : Int32) = 0 by rfl), fun _ => ?_⟩ | refine ⟨fun _ => ?_, fun y_ => absurd y_ (show (0 : Int32) = 0 by rfl)⟩)
            refine mt_mustS t w1 e1 rfl (by decide) (fun k3 h8 w8 => ⟨rfl, w8.1.1, ?_⟩) (fun k3 h8 w8 => ⟨rfl, w8.1.1, ?_⟩)
            · exact sec (by rw [k3]; rfl) h8 w8
            · have kn : ¬ isCmp (cs (pSum cs vs isV e i lv).2.1) = true := by
                unfold isCmp
                simp [k, k2, k3]
              rw [if_neg kn] at hq
              exact hs.2 _ _ _ w8 ⟨rfl, w8.1.1, hq _ ⟨fun y => absurd (show false = true from y) (by decide), fun _ => w8⟩⟩
      · rw [if_neg c] at hq
        have w2 := w.2 (Bool.eq_false_iff.mpr c)
        have hQ : Q none h5 := hq _ ⟨fun y => absurd (show false = true from y) (by decide), fun _ => w2⟩
        refine mt_takesF w2 ⟨_, rfl, w2.1.1, ?_⟩
        (first | refine ⟨fun _ => ?_, fun n_ => absurd (show (0 : Int32) = 0 by rfl) n_⟩ | refine ⟨fun n_ => absurd (show (0 : Int32) = 0 by rfl) n_, fun _ => ?_⟩ | refine ⟨fun y_ => absurd y_ (show (0 : Int32) = 0 by rfl), fun _ => ?_⟩ | refine ⟨fun _ => ?_, fun y_ => absurd y_ (show (0 : Int32) = 0 by rfl)⟩)
        refine mt_takesF w2 ⟨_, rfl, w2.1.1, ?_⟩
        (first | refine ⟨fun _ => ?_, fun n_ => absurd (show (0 : Int32) = 0 by rfl) n_⟩ | refine ⟨fun n_ => absurd (show (0 : Int32) = 0 by rfl) n_, fun _ => ?_⟩ | refine ⟨fun y_ => absurd y_ (show (0 : Int32) = 0 by rfl), fun _ => ?_⟩ | refine ⟨fun _ => ?_, fun y_ => absurd y_ (show (0 : Int32) = 0 by rfl)⟩)
        exact mt_mustF w2 ⟨rfl, w2.1.1, hs.2 _ _ _ w2 ⟨rfl, w2.1.1, hQ⟩⟩
  have lp : ∀ (k : Nat) (Q : Option Value → ah_T → Prop) (h : ah_T) (i lv : Nat), n - i < k → i ≤ n → lv ≤ 50 → mS h0 h i lv → (∀ h', mS h0 h' (i + nots cs k i) lv → Wp (mX12_readPlain d) Q 0 0 2 [some (.ref 82), some (.int (nI dp)), some (.int 0), none] [] h') → Wp (mX12_readPlain d) Q 0 0 2 [some (.ref 82), some (.int (nI dp)), some (.int 1), none] [] h := by
    intro k
    induction k with
    | zero => intro Q h i lv hk; omega
    | succ k ih =>
      intro Q h i lv hk hi hl q hq
      unfold nots at hq
      refine T_X12_readPlain_2 hd q.1.1 _ _ ?_
      (first | refine ⟨fun _ => ?_, fun n_ => absurd (show ¬ (1 : Int32) = 0 by decide) n_⟩ | refine ⟨fun n_ => absurd (show ¬ (1 : Int32) = 0 by decide) n_, fun _ => ?_⟩ | refine ⟨fun y_ => absurd y_ (show ¬ (1 : Int32) = 0 by decide), fun _ => ?_⟩ | refine ⟨fun _ => ?_, fun y_ => absurd y_ (show ¬ (1 : Int32) = 0 by decide)⟩)
      refine mt_takesS t q hi (k := 7) rfl (by decide) (fun c h' w => ⟨_, rfl, w.1.1, ?_⟩) (fun c => ⟨_, rfl, q.1.1, ?_⟩)
      · rw [if_pos c] at hq
        have hin : i < n := by
          rcases Nat.lt_or_ge i n with z | z
          · exact z
          · have : i = n := by omega
            rw [this, t.2.1] at c
            omega
        refine ih Q h' (i + 1) lv (by omega) (by omega) hl w (fun h2 w2 => hq h2 ?_)
        rwa [show i + (nots cs k (i + 1) + 1) = i + 1 + nots cs k (i + 1) by omega]
      · rw [if_neg c] at hq
        exact hq h q
  refine ⟨fun Q h i lv hi hl q hq => ?_, fun Q h p q hq => ?_⟩
  · refine T_X12_readPlain hd q.1.1 _ (lp 401 Q h i lv (by omega) hi hl q (fun h' w => ?_))
    exact tail Q h' _ lv (nots_le 401 i hi t.2.1) hl w (fun h2 w2 => hq h2 w2)
  · refine T_X12_readPlain hd q.1.1 _ (T_X12_readPlain_2 hd q.1.1 _ _ ?_)
    (first | refine ⟨fun _ => ?_, fun n_ => absurd (show ¬ (1 : Int32) = 0 by decide) n_⟩ | refine ⟨fun n_ => absurd (show ¬ (1 : Int32) = 0 by decide) n_, fun _ => ?_⟩ | refine ⟨fun y_ => absurd y_ (show ¬ (1 : Int32) = 0 by decide), fun _ => ?_⟩ | refine ⟨fun _ => ?_, fun y_ => absurd y_ (show ¬ (1 : Int32) = 0 by decide)⟩)
    exact mt_takesF q ⟨_, rfl, q.1.1, tailF Q h p q hq⟩
theorem mr_both {d e : Nat} {x : Int32} {rec : Option (Nat → Nat → pR Tg)} (t : Tk cs vs pl isV n h0) (hd : 8 ≤ d) (hr : ∀ f, rec = some f → lvO n f) (hp : mRd cs vs pl isV n h0 (mX12_readPlain (d - 1)) x (pPlain cs vs isV e rec)) : mRd cs vs pl isV n h0 (mX12_readBoth d) x (pBoth cs vs isV e rec) := by
  have ok := pPlain_ok (vs := vs) (e := e) t.2.1 t.2.2.1 hr
  have h400 := t.1
  have lF : ∀ (Q : Option Value → ah_T → Prop) (h : ah_T) (p : Nat), mF h0 h p → Q none h → Wp (mX12_readBoth d) Q 0 0 5 [some (.ref 82), some (.int x)] [] h := by
    intro Q h p q hq
    refine T_X12_readBoth_5 hd q.1.1 _ (mt_takesF q ⟨_, rfl, q.1.1, ?_⟩)
    (first | refine ⟨fun _ => ?_, fun n_ => absurd (show (0 : Int32) = 0 by rfl) n_⟩ | refine ⟨fun n_ => absurd (show (0 : Int32) = 0 by rfl) n_, fun _ => ?_⟩ | refine ⟨fun y_ => absurd y_ (show (0 : Int32) = 0 by rfl), fun _ => ?_⟩ | refine ⟨fun _ => ?_, fun y_ => absurd y_ (show (0 : Int32) = 0 by rfl)⟩)
    exact hq
  have lS : ∀ (k : Nat) (Q : Option Value → ah_T → Prop) (h : ah_T) (y : Tg) (i lv : Nat), n - i < k → i ≤ n → lv ≤ 50 → mS h0 h i lv → (∀ h', pst pl h0 (pCh cs (pPlain cs vs isV e rec) (fun c => c == 6) (fun _ => andT) k y i lv) h' → Q none h') → Wp (mX12_readBoth d) Q 0 0 5 [some (.ref 82), some (.int x)] [] h := by
    intro k
    induction k with
    | zero => intro Q h y i lv hk; omega
    | succ k ih =>
      intro Q h y i lv hk hi hl q hq
      unfold pCh at hq
      refine T_X12_readBoth_5 hd q.1.1 _ (mt_takesS t q hi (k := 6) rfl (by decide) (fun c h4 w => ⟨_, rfl, w.1.1, ?_⟩) (fun c => ⟨_, rfl, q.1.1, ?_⟩))
      · rw [if_pos (by simp [c])] at hq
        have hin : i < n := by
          rcases Nat.lt_or_ge i n with z | z
          · exact z
          · have : i = n := by omega
            rw [this, t.2.1] at c
            omega
        (first | refine ⟨fun _ => ?_, fun n_ => absurd (show ¬ (1 : Int32) = 0 by decide) n_⟩ | refine ⟨fun n_ => absurd (show ¬ (1 : Int32) = 0 by decide) n_, fun _ => ?_⟩ | refine ⟨fun y_ => absurd y_ (show ¬ (1 : Int32) = 0 by decide), fun _ => ?_⟩ | refine ⟨fun _ => ?_, fun y_ => absurd y_ (show ¬ (1 : Int32) = 0 by decide)⟩)
        obtain ⟨e1, e2, e3⟩ := ok (i + 1) lv (by omega) hl
        refine hp.1 _ _ (i + 1) lv (by omega) hl w (fun h8 w8 => ⟨rfl, pst_Sh w8, ?_⟩)
        by_cases c2 : (pPlain cs vs isV e rec (i + 1) lv).1 = true
        · rw [if_pos c2] at hq
          obtain ⟨e4, e5, e6⟩ := e3 c2
          exact ih Q h8 _ _ _ (by omega) e1 e6 (w8.1 c2) hq
        · rw [if_neg c2] at hq
          exact lF Q h8 _ (w8.2 (Bool.eq_false_iff.mpr c2)) (hq h8 w8)
      · rw [if_neg (by simp [c])] at hq
        (first | refine ⟨fun _ => ?_, fun n_ => absurd (show (0 : Int32) = 0 by rfl) n_⟩ | refine ⟨fun n_ => absurd (show (0 : Int32) = 0 by rfl) n_, fun _ => ?_⟩ | refine ⟨fun y_ => absurd y_ (show (0 : Int32) = 0 by rfl), fun _ => ?_⟩ | refine ⟨fun _ => ?_, fun y_ => absurd y_ (show (0 : Int32) = 0 by rfl)⟩)
        exact hq h ⟨fun _ => q, fun z => absurd (show true = false from z) (by decide)⟩
  refine ⟨fun Q h i lv hi hl q hq => ?_, fun Q h p q hq => ?_⟩
  · refine T_X12_readBoth hd q.1.1 _ ?_
    obtain ⟨e1, e2, e3⟩ := ok i lv hi hl
    refine hp.1 _ _ i lv hi hl q (fun h1 w => ⟨rfl, pst_Sh w, ?_⟩)
    unfold pBoth pChain at hq
    by_cases c2 : (pPlain cs vs isV e rec i lv).1 = true
    · rw [if_pos c2] at hq
      obtain ⟨e4, e5, e6⟩ := e3 c2
      exact lS 401 Q h1 _ _ _ (by omega) e1 e6 (w.1 c2) hq
    · rw [if_neg c2] at hq
      exact lF Q h1 _ (w.2 (Bool.eq_false_iff.mpr c2)) (hq h1 w)
  · exact T_X12_readBoth hd q.1.1 _ (hp.2 _ _ p q ⟨rfl, q.1.1, lF Q h p q hq⟩)
theorem mr_test {d e : Nat} {x : Int32} {rec : Option (Nat → Nat → pR Tg)} (t : Tk cs vs pl isV n h0) (hd : 8 ≤ d) (hr : ∀ f, rec = some f → lvO n f) (hp : mRd cs vs pl isV n h0 (mX12_readBoth (d - 1)) x (pBoth cs vs isV e rec)) : mRd cs vs pl isV n h0 (mX12_readTest d) x (pTest0 cs vs isV e rec) := by
  have ok := pBoth_ok (vs := vs) (e := e) t.2.1 t.2.2.1 hr
  have h400 := t.1
  have lF : ∀ (Q : Option Value → ah_T → Prop) (h : ah_T) (p : Nat), mF h0 h p → Q none h → Wp (mX12_readTest d) Q 0 0 5 [some (.ref 82), some (.int x)] [] h := by
    intro Q h p q hq
    refine T_X12_readTest_5 hd q.1.1 _ (mt_takesF q ⟨_, rfl, q.1.1, ?_⟩)
    (first | refine ⟨fun _ => ?_, fun n_ => absurd (show (0 : Int32) = 0 by rfl) n_⟩ | refine ⟨fun n_ => absurd (show (0 : Int32) = 0 by rfl) n_, fun _ => ?_⟩ | refine ⟨fun y_ => absurd y_ (show (0 : Int32) = 0 by rfl), fun _ => ?_⟩ | refine ⟨fun _ => ?_, fun y_ => absurd y_ (show (0 : Int32) = 0 by rfl)⟩)
    exact hq
  have lS : ∀ (k : Nat) (Q : Option Value → ah_T → Prop) (h : ah_T) (y : Tg) (i lv : Nat), n - i < k → i ≤ n → lv ≤ 50 → mS h0 h i lv → (∀ h', pst pl h0 (pCh cs (pBoth cs vs isV e rec) (fun c => c == 5) (fun _ => orT) k y i lv) h' → Q none h') → Wp (mX12_readTest d) Q 0 0 5 [some (.ref 82), some (.int x)] [] h := by
    intro k
    induction k with
    | zero => intro Q h y i lv hk; omega
    | succ k ih =>
      intro Q h y i lv hk hi hl q hq
      unfold pCh at hq
      refine T_X12_readTest_5 hd q.1.1 _ (mt_takesS t q hi (k := 5) rfl (by decide) (fun c h4 w => ⟨_, rfl, w.1.1, ?_⟩) (fun c => ⟨_, rfl, q.1.1, ?_⟩))
      · rw [if_pos (by simp [c])] at hq
        have hin : i < n := by
          rcases Nat.lt_or_ge i n with z | z
          · exact z
          · have : i = n := by omega
            rw [this, t.2.1] at c
            omega
        (first | refine ⟨fun _ => ?_, fun n_ => absurd (show ¬ (1 : Int32) = 0 by decide) n_⟩ | refine ⟨fun n_ => absurd (show ¬ (1 : Int32) = 0 by decide) n_, fun _ => ?_⟩ | refine ⟨fun y_ => absurd y_ (show ¬ (1 : Int32) = 0 by decide), fun _ => ?_⟩ | refine ⟨fun _ => ?_, fun y_ => absurd y_ (show ¬ (1 : Int32) = 0 by decide)⟩)
        obtain ⟨e1, e2, e3⟩ := ok (i + 1) lv (by omega) hl
        refine hp.1 _ _ (i + 1) lv (by omega) hl w (fun h8 w8 => ⟨rfl, pst_Sh w8, ?_⟩)
        by_cases c2 : (pBoth cs vs isV e rec (i + 1) lv).1 = true
        · rw [if_pos c2] at hq
          obtain ⟨e4, e5, e6⟩ := e3 c2
          exact ih Q h8 _ _ _ (by omega) e1 e6 (w8.1 c2) hq
        · rw [if_neg c2] at hq
          exact lF Q h8 _ (w8.2 (Bool.eq_false_iff.mpr c2)) (hq h8 w8)
      · rw [if_neg (by simp [c])] at hq
        (first | refine ⟨fun _ => ?_, fun n_ => absurd (show (0 : Int32) = 0 by rfl) n_⟩ | refine ⟨fun n_ => absurd (show (0 : Int32) = 0 by rfl) n_, fun _ => ?_⟩ | refine ⟨fun y_ => absurd y_ (show (0 : Int32) = 0 by rfl), fun _ => ?_⟩ | refine ⟨fun _ => ?_, fun y_ => absurd y_ (show (0 : Int32) = 0 by rfl)⟩)
        exact hq h ⟨fun _ => q, fun z => absurd (show true = false from z) (by decide)⟩
  refine ⟨fun Q h i lv hi hl q hq => ?_, fun Q h p q hq => ?_⟩
  · refine T_X12_readTest hd q.1.1 _ ?_
    obtain ⟨e1, e2, e3⟩ := ok i lv hi hl
    refine hp.1 _ _ i lv hi hl q (fun h1 w => ⟨rfl, pst_Sh w, ?_⟩)
    unfold pTest0 pChain at hq
    by_cases c2 : (pBoth cs vs isV e rec i lv).1 = true
    · rw [if_pos c2] at hq
      obtain ⟨e4, e5, e6⟩ := e3 c2
      exact lS 401 Q h1 _ _ _ (by omega) e1 e6 (w.1 c2) hq
    · rw [if_neg c2] at hq
      exact lF Q h1 _ (w.2 (Bool.eq_false_iff.mpr c2)) (hq h1 w)
  · exact T_X12_readTest hd q.1.1 _ (hp.2 _ _ p q ⟨rfl, q.1.1, lF Q h p q hq⟩)
theorem mr_Test (t : Tk cs vs pl isV n h0) : ∀ (e d : Nat), e ≤ 8 → 15 + 3 * e ≤ d → mRd cs vs pl isV n h0 (mX12_readTest d) (nI (8 - e)) (pTest cs vs isV e) := by
  intro e
  induction e with
  | zero =>
    intro d he hd
    have hr : ∀ f, (none : Option (Nat → Nat → pR Tg)) = some f → lvO n f := fun f q => by cases q
    exact mr_test (rec := none) t (by omega) hr (mr_both t (by omega) hr (mr_plain t (by omega) (by omega) (mr_Sum t 0 _ (by omega) (by omega)) (fun _ => rfl) (fun f q => by cases q)))
  | succ e ih =>
    intro d he hd
    have ok := pTest_ok (vs := vs) (isV := isV) t.2.1 t.2.2.1 e
    have hr : ∀ f, (some (pTest cs vs isV e)) = some f → lvO n f := fun f q => by cases q; exact ok
    have h1 := ih (d - 1 - 1 - 1) (by omega) (by omega)
    have hp : mRd cs vs pl isV n h0 (mX12_readPlain (d - 1 - 1)) (nI (8 - (e + 1))) (pPlain cs vs isV (e + 1) (some (pTest cs vs isV e))) := mr_plain t (by omega) (by omega) (mr_Sum t (e + 1) _ (by omega) (by omega)) (fun q => by cases q) (fun f q => by
      cases q
      refine ⟨by omega, ok, ?_⟩
      rw [show 8 - (e + 1) + 1 = 8 - e by omega]
      exact h1)
    exact mr_test (rec := some (pTest cs vs isV e)) t (by omega) hr (mr_both t (by omega) hr hp)
end RD
