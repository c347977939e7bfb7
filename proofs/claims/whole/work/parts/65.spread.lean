/-! ===== the class spreads from a corner ===== -/
theorem b_one (i : Nat) : bt 1 i = decide (i = 0) := by
  rcases Nat.lt_or_ge i 32 with h | h
  · exact (by decide +kernel : ∀ i, i < 32 → bt 1 i = decide (i = 0)) i h
  · rw [b_big h, decide_eq_false (by omega)]
theorem b_not (x : Int32) {i : Nat} (hi : i < 32) : bt (x ^^^ (-1)) i = !bt x i := by rw [b_xor, b_m1 i hi]; simp
theorem bit1 (x : Int32) {v : Nat} (hv : v < 32) : (x >>> (nI v &&& 31)) &&& 1 = if bt x v then 1 else 0 := by
  apply b_ext
  intro i hi
  rw [b_and, b_one, b_sshr v hv x hi]
  by_cases c : i = 0
  · subst c
    rw [if_pos (by omega), Nat.add_zero]
    cases bt x v <;> simp [b_one, b_0]
  · cases bt x v <;> simp [b_one, b_0, c]
theorem bit1_0 (x : Int32) {v : Nat} (hv : v < 32) : ((x >>> (nI v &&& 31)) &&& 1) = 0 ↔ bt x v = false := by
  rw [bit1 x hv]
  cases bt x v <;> decide
theorem isIn_bt (x : Int32) {v : Nat} (hv : v < 32) : f_X12_isIn x (nI v) = 0 ↔ bt x v = false := by
  unfold f_X12_isIn
  rw [bit1 x hv]
  cases bt x v <;> decide
theorem b_1sh {n : Nat} (hn : n < 32) {i : Nat} (hi : i < 32) : bt ((1 : Int32) <<< (nI n &&& 31)) i = decide (i = n) := by
  rw [b_shl n hn 1 hi, b_one]
  by_cases c : i = n
  · subst c; simp
  · by_cases c2 : n ≤ i
    · simp [c, c2]; omega
    · simp [c, c2]
theorem m_shutNow {Q : Option Value → ah_T → Prop} {A : Nat → Nat} {h : ah_T} (hs : Sh h) (m1 : ah_i h 84 245 = nI (A 245)) (m2 : A 245 ≤ 20) (m3 : ∀ w, w < A 245 → ah_i h 84 (3 * w + 2) = nI (A (3 * w + 2)) ∧ A (3 * w + 2) ≤ 1) (hq : ∀ x, (∀ i, i < 32 → (bt x i = true ↔ (i < A 245 ∧ A (3 * i + 2) = 1))) → Q (some (.int x)) h) : Mt mX12_shutNow [.ref 82] h Q := by
  refine T_X12_shutNow hs ?_
  have key : ∀ (q n : Nat) (x : Int32), n + q = A 245 → (∀ i, i < 32 → (bt x i = true ↔ (i < n ∧ A (3 * i + 2) = 1))) → Wp mX12_shutNow Q 0 0 4 [some (.ref 82), some (.int x), some (.int (nI n))] [] h := by
    intro q
    induction q with
    | zero =>
      intro n x hn hx
      refine T_X12_shutNow_4 hs _ _ ?_
      rw [cl_245, m1]
      (first | refine ⟨fun _ => ?_, fun n_ => absurd (show nI (A 245) ≤ nI n from nI_le (by omega) (by omega)) n_⟩ | refine ⟨fun n_ => absurd (show nI (A 245) ≤ nI n from nI_le (by omega) (by omega)) n_, fun _ => ?_⟩ | refine ⟨fun y_ => absurd y_ (show nI (A 245) ≤ nI n from nI_le (by omega) (by omega)), fun _ => ?_⟩ | refine ⟨fun _ => ?_, fun y_ => absurd y_ (show nI (A 245) ≤ nI n from nI_le (by omega) (by omega))⟩)
      exact hq x (fun i hi => by rw [hx i hi, show n = A 245 by omega])
    | succ q ih =>
      intro n x hn hx
      obtain ⟨e1, e2⟩ := m3 n (by omega)
      have f1 : 0 + 3 * nI n + 2 = nI (3 * n + 2) := by grind
      refine T_X12_shutNow_4 hs _ _ ?_
      rw [cl_245, m1, f1, nI_clamp (by omega), e1, nI_1]
      (first | refine ⟨fun _ => ?_, fun n_ => absurd (show ¬ nI (A 245) ≤ nI n from nI_ge (by omega) (by omega)) n_⟩ | refine ⟨fun n_ => absurd (show ¬ nI (A 245) ≤ nI n from nI_ge (by omega) (by omega)) n_, fun _ => ?_⟩ | refine ⟨fun y_ => absurd y_ (show ¬ nI (A 245) ≤ nI n from nI_ge (by omega) (by omega)), fun _ => ?_⟩ | refine ⟨fun _ => ?_, fun y_ => absurd y_ (show ¬ nI (A 245) ≤ nI n from nI_ge (by omega) (by omega))⟩)
      refine ⟨by rw [n84 hs]; exact (vp_nI (by omega)).mpr (by omega), ih (n + 1) _ (by omega) (fun i hi => ?_)⟩
      rw [b_or, Bool.or_eq_true, hx i hi]
      rcases (show A (3 * n + 2) = 0 ∨ A (3 * n + 2) = 1 by omega) with z | z
      · rw [z]
        have : bt (nI 0 <<< (nI n &&& 31)) i = false := by rw [b_shl n (by omega) _ hi, show nI 0 = 0 from rfl, b_0]; simp
        rw [this]
        constructor
        · rintro (q | q)
          · exact ⟨by omega, q.2⟩
          · exact absurd q (by decide)
        · intro q
          refine .inl ⟨?_, q.2⟩
          rcases Nat.lt_or_ge i n with k | k
          · exact k
          · have : i = n := by omega
            subst this
            omega
      · rw [z, show nI 1 = 1 from rfl, b_1sh (by omega) hi, decide_eq_true_eq]
        constructor
        · rintro (q | q)
          · exact ⟨by omega, q.2⟩
          · subst q; exact ⟨by omega, z⟩
        · intro q
          rcases Nat.lt_or_ge i n with k | k
          · exact .inl ⟨k, q.2⟩
          · exact .inr (by omega)
  exact key (A 245) 0 0 (by omega) (fun i hi => by rw [b_0]; simp)
section SP
variable {E : Nat → Nat → Prop} {h0 : ah_T} {a0 a2 st fr : Nat} {Q : Option Value → ah_T → Prop}
/-- a row of the class from st on, all else as it was -/
def rw2 (h0 : ah_T) (a2 st : Nat) (h : ah_T) : Prop := Sh h ∧ ah_x h = ah_x h0 ∧ (∀ a, a ≠ a2 → eqc h0 h a) ∧ ah_k h a2 = ah_k h0 a2 ∧ ah_n h a2 = ah_n h0 a2 ∧ ∀ i, ¬ (st ≤ i ∧ i < st + 12) → ah_i h a2 i = ah_i h0 a2 i
theorem rw2_set {h : ah_T} {j : Nat} {x : Int32} (q : rw2 h0 a2 st h) (hj : st ≤ j) (hj2 : j < st + 12) : rw2 h0 a2 st (ah_si h a2 j x) := by
  obtain ⟨q1, q2, q3, q4, q5, q6⟩ := q
  exact ⟨sh_si q1, by rw [ah_x_si, q2], fun a n => eqc_si (q3 a n) n, by rw [ah_k_si]; exact q4, by rw [ah_n_si]; exact q5, fun i hi => by rw [ah_i_sn (fun z => hi (by omega))]; exact q6 i hi⟩
def lvl (E : Nat → Nat → Prop) (fr a2 st d : Nat) (h : ah_T) : Prop := ∀ b, b < 12 → (∃ n, n < d ∧ lst E fr b n ∧ ah_i h a2 (st + b) = nI n) ∨ ((∀ n, n < d → ¬ lst E fr b n) ∧ ah_i h a2 (st + b) = -1)
theorem c_spread (hE : ∀ x y, E x y → x < 12 ∧ y < 12) (hne : a0 ≠ a2) (hs0 : Sh h0) (k0 : ah_k h0 a0 = 14) (k2 : ah_k h0 a2 = 14) (n0 : ah_n h0 a0 = 12) (hst : st + 12 ≤ ah_n h0 a2) (hn2 : ah_n h0 a2 ≤ 144) (hfr : fr < 12) (hN : ∀ c, c < 12 → ∀ i, i < 32 → (bt (ah_i h0 a0 c) i = true ↔ E c i)) {x1 x3 : Int32} (e1 : x1 = nI fr) (e3 : x3 = nI st)
    (hq : ∀ h, rw2 h0 a2 st h → (∀ b, b < 12 → dst E fr b (ah_i h a2 (st + b))) → Q none h) : Mt mX6_spread [.ref a0, .int x1, .ref a2, .int x3] h0 Q := by
  subst e1 e3
  refine T_X6_spread hs0 a0 _ a2 _ k0 k2 ?_
  (first | refine ⟨fun _ => ?_, fun n_ => absurd (nI_pos (show st < 2 ^ 31 by omega)) n_⟩ | refine ⟨fun n_ => absurd (nI_pos (show st < 2 ^ 31 by omega)) n_, fun _ => ?_⟩ | refine ⟨fun y_ => absurd y_ (nI_pos (show st < 2 ^ 31 by omega)), fun _ => ?_⟩ | refine ⟨fun _ => ?_, fun y_ => absurd y_ (nI_pos (show st < 2 ^ 31 by omega))⟩)
  rw [nI_ofNat, n_12, nI_add]
  (first | refine ⟨fun _ => ?_, fun n_ => absurd (show ¬ nI (ah_n h0 a2) < nI (st + 12) from nI_nlt (by omega) (by omega)) n_⟩ | refine ⟨fun n_ => absurd (show ¬ nI (ah_n h0 a2) < nI (st + 12) from nI_nlt (by omega) (by omega)) n_, fun _ => ?_⟩ | refine ⟨fun y_ => absurd y_ (show ¬ nI (ah_n h0 a2) < nI (st + 12) from nI_nlt (by omega) (by omega)), fun _ => ?_⟩ | refine ⟨fun _ => ?_, fun y_ => absurd y_ (show ¬ nI (ah_n h0 a2) < nI (st + 12) from nI_nlt (by omega) (by omega))⟩)
  (first | refine ⟨fun _ => ?_, fun n_ => absurd (nI_pos (show fr < 2 ^ 31 by omega)) n_⟩ | refine ⟨fun n_ => absurd (nI_pos (show fr < 2 ^ 31 by omega)) n_, fun _ => ?_⟩ | refine ⟨fun y_ => absurd y_ (nI_pos (show fr < 2 ^ 31 by omega)), fun _ => ?_⟩ | refine ⟨fun _ => ?_, fun y_ => absurd y_ (nI_pos (show fr < 2 ^ 31 by omega))⟩)
  (first | refine ⟨fun _ => ?_, fun n_ => absurd (show nI fr < nI 12 from nI_lt (by omega) (by omega)) n_⟩ | refine ⟨fun n_ => absurd (show nI fr < nI 12 from nI_lt (by omega) (by omega)) n_, fun _ => ?_⟩ | refine ⟨fun y_ => absurd y_ (show nI fr < nI 12 from nI_lt (by omega) (by omega)), fun _ => ?_⟩ | refine ⟨fun _ => ?_, fun y_ => absurd y_ (show nI fr < nI 12 from nI_lt (by omega) (by omega))⟩)
  refine c_fill hs0 a2 st (st + 12) (-1) _ _ rfl rfl k2 hst (by omega) (by omega) ⟨rfl, sh_fl hs0, k0, k2, ?_⟩
  have fin : ∀ h d, rw2 h0 a2 st h → lvl E fr a2 st d h → (d = 12 ∨ ∀ b, ¬ lst E fr b d) → Q none h := by
    intro h d hr hl hd
    refine hq h hr (fun b hb => ?_)
    rcases hl b hb with ⟨n, hn, h1, h2⟩ | ⟨h1, h2⟩
    · rw [h2]
      exact .inr ⟨n, rfl, lst_lt hE hfr h1, h1⟩
    · rw [h2]
      refine .inl ⟨rfl, fun n hw => ?_⟩
      obtain ⟨m, hm, _, hl2⟩ := wk_short hE hfr hw
      rcases hd with hd | hd
      · exact h1 m (by omega) hl2
      · rcases Nat.lt_or_ge m d with z | z
        · exact h1 m z hl2
        · obtain ⟨c, hc⟩ := lst_pre (n := d) (m - d) (b := b) (by rw [show d + (m - d) = m by omega]; exact hl2)
          exact hd c hc
  have outer : ∀ (q d : Nat) (h : ah_T) (sn ed : Int32), d + q = 12 → rw2 h0 a2 st h → lvl E fr a2 st d h → (∀ i, i < 32 → (bt sn i = true ↔ ∃ n, n ≤ d ∧ wk E n fr i)) → (∀ i, i < 32 → (bt ed i = true ↔ lst E fr i d)) → Wp mX6_spread Q 0 0 46 [some (.ref a0), none, some (.ref a2), some (.int (nI st)), some (.int sn), some (.int ed), some (.int (nI d)), none, none] [] h := by
    intro q
    induction q with
    | zero =>
      intro d h sn ed hd hr hl hsn hed
      refine T_X6_spread_46 hr.1 a0 a2 _ _ _ _ (by rw [(hr.2.2.1 a0 hne).2.2.2.1]; exact k0) (by rw [hr.2.2.2.1]; exact k2) ?_
      (first | refine ⟨fun _ => ?_, fun n_ => absurd (show 12 ≤ nI d from nI_le (a := 12) (by omega) (by omega)) n_⟩ | refine ⟨fun n_ => absurd (show 12 ≤ nI d from nI_le (a := 12) (by omega) (by omega)) n_, fun _ => ?_⟩ | refine ⟨fun y_ => absurd y_ (show 12 ≤ nI d from nI_le (a := 12) (by omega) (by omega)), fun _ => ?_⟩ | refine ⟨fun _ => ?_, fun y_ => absurd y_ (show 12 ≤ nI d from nI_le (a := 12) (by omega) (by omega))⟩)
      exact fin h d hr hl (.inl (by omega))
    | succ q ih =>
      intro d h sn ed hd hr hl hsn hed
      refine T_X6_spread_46 hr.1 a0 a2 _ _ _ _ (by rw [(hr.2.2.1 a0 hne).2.2.2.1]; exact k0) (by rw [hr.2.2.2.1]; exact k2) ?_
      (first | refine ⟨fun _ => ?_, fun n_ => absurd (show ¬ 12 ≤ nI d from nI_ge (b := 12) (by omega) (by omega)) n_⟩ | refine ⟨fun n_ => absurd (show ¬ 12 ≤ nI d from nI_ge (b := 12) (by omega) (by omega)) n_, fun _ => ?_⟩ | refine ⟨fun y_ => absurd y_ (show ¬ 12 ≤ nI d from nI_ge (b := 12) (by omega) (by omega)), fun _ => ?_⟩ | refine ⟨fun _ => ?_, fun y_ => absurd y_ (show ¬ 12 ≤ nI d from nI_ge (b := 12) (by omega) (by omega))⟩)
      by_cases c : ed = 0
      · (first | refine ⟨fun _ => ?_, fun n_ => absurd (c) n_⟩ | refine ⟨fun n_ => absurd (c) n_, fun _ => ?_⟩ | refine ⟨fun y_ => absurd y_ (c), fun _ => ?_⟩ | refine ⟨fun _ => ?_, fun y_ => absurd y_ (c)⟩)
        refine fin h d hr hl (.inr (fun b hb => ?_))
        have := (hed b (by have := wk_in hE hfr hb.1; omega)).mpr hb
        rw [c, b_0] at this
        exact absurd this (by decide)
      · (first | refine ⟨fun _ => ?_, fun n_ => absurd (c) n_⟩ | refine ⟨fun n_ => absurd (c) n_, fun _ => ?_⟩ | refine ⟨fun y_ => absurd y_ (c), fun _ => ?_⟩ | refine ⟨fun _ => ?_, fun y_ => absurd y_ (c)⟩)
        have inner : ∀ (g c : Nat) (h : ah_T) (re : Int32), c + g = 12 → rw2 h0 a2 st h → (∀ b, b < 12 → ah_i h a2 (st + b) = if b < c ∧ bt ed b = true then nI d else ah_i h a2 (st + b)) → lvl E fr a2 st d h ∨ True → (∀ b, b < 12 → (∃ n, (n < d ∨ (n = d ∧ b < c)) ∧ lst E fr b n ∧ ah_i h a2 (st + b) = nI n) ∨ ((∀ n, (n < d ∨ (n = d ∧ b < c)) → ¬ lst E fr b n) ∧ ah_i h a2 (st + b) = -1)) → (∀ i, i < 32 → (bt re i = true ↔ ∃ x, x < c ∧ lst E fr x d ∧ E x i)) → Wp mX6_spread Q 0 0 64 [some (.ref a0), none, some (.ref a2), some (.int (nI st)), some (.int sn), some (.int ed), some (.int (nI d)), some (.int re), some (.int (nI c))] [] h := by
          intro g
          induction g with
          | zero =>
            intro c h re hc hr _ _ hl hre
            refine T_X6_spread_64 hr.1 a0 a2 _ _ _ _ _ _ (by rw [(hr.2.2.1 a0 hne).2.2.2.1]; exact k0) (by rw [hr.2.2.2.1]; exact k2) ?_
            (first | refine ⟨fun _ => ?_, fun n_ => absurd (show 12 ≤ nI c from nI_le (a := 12) (by omega) (by omega)) n_⟩ | refine ⟨fun n_ => absurd (show 12 ≤ nI c from nI_le (a := 12) (by omega) (by omega)) n_, fun _ => ?_⟩ | refine ⟨fun y_ => absurd y_ (show 12 ≤ nI c from nI_le (a := 12) (by omega) (by omega)), fun _ => ?_⟩ | refine ⟨fun _ => ?_, fun y_ => absurd y_ (show 12 ≤ nI c from nI_le (a := 12) (by omega) (by omega))⟩)
            rw [nI_1]
            have hed2 : ∀ i, i < 32 → (bt (re &&& (sn ^^^ (-1))) i = true ↔ lst E fr i (d + 1)) := by
              intro i hi
              rw [b_and, b_not sn hi, Bool.and_eq_true, hre i hi, Bool.not_eq_true', ← Bool.not_eq_true, hsn i hi]
              constructor
              · rintro ⟨⟨x, hx, h1, h2⟩, h3⟩
                exact ⟨⟨x, h1.1, h2⟩, fun m hm hw => h3 ⟨m, by omega, hw⟩⟩
              · rintro ⟨⟨x, h1, h2⟩, h3⟩
                refine ⟨⟨x, by have := (hE x i h2).1; omega, ⟨h1, fun m hm hw => h3 (m + 1) (by omega) ⟨x, hw, h2⟩⟩, h2⟩, ?_⟩
                rintro ⟨m, hm, hw⟩
                exact h3 m (by omega) hw
            refine ih (d + 1) h _ _ (by omega) hr (fun b hb => ?_) (fun i hi => ?_) hed2
            · rcases hl b hb with ⟨n, hn, h1, h2⟩ | ⟨h1, h2⟩
              · exact .inl ⟨n, by omega, h1, h2⟩
              · exact .inr ⟨fun n hn => h1 n (by omega), h2⟩
            · rw [b_or, Bool.or_eq_true, hsn i hi, hed2 i hi]
              constructor
              · rintro (⟨n, hn, hw⟩ | hw)
                · exact ⟨n, by omega, hw⟩
                · exact ⟨d + 1, Nat.le_refl _, hw.1⟩
              · rintro ⟨n, hn, hw⟩
                by_cases z : ∃ m, m ≤ d ∧ wk E m fr i
                · exact .inl z
                · refine .inr ?_
                  have : n = d + 1 := by
                    rcases Nat.lt_or_ge n (d + 1) with k | k
                    · exact absurd ⟨n, by omega, hw⟩ z
                    · omega
                  subst this
                  exact ⟨hw, fun m hm hw2 => z ⟨m, by omega, hw2⟩⟩
          | succ g ihg =>
            intro c h re hc hr _ _ hl hre
            refine T_X6_spread_64 hr.1 a0 a2 _ _ _ _ _ _ (by rw [(hr.2.2.1 a0 hne).2.2.2.1]; exact k0) (by rw [hr.2.2.2.1]; exact k2) ?_
            (first | refine ⟨fun _ => ?_, fun n_ => absurd (show ¬ 12 ≤ nI c from nI_ge (b := 12) (by omega) (by omega)) n_⟩ | refine ⟨fun n_ => absurd (show ¬ 12 ≤ nI c from nI_ge (b := 12) (by omega) (by omega)) n_, fun _ => ?_⟩ | refine ⟨fun y_ => absurd y_ (show ¬ 12 ≤ nI c from nI_ge (b := 12) (by omega) (by omega)), fun _ => ?_⟩ | refine ⟨fun _ => ?_, fun y_ => absurd y_ (show ¬ 12 ≤ nI c from nI_ge (b := 12) (by omega) (by omega))⟩)
            rw [nI_1, nI_add, nI_clamp (by omega), nI_clamp (by omega)]
            by_cases z : bt ed c = true
            · have hlc : lst E fr c d := (hed c (by omega)).mp z
              (first | refine ⟨fun _ => ?_, fun n_ => absurd (show ¬ ((ed >>> (nI c &&& 31)) &&& 1) = 0 by rw [bit1_0 ed (by omega), z]; decide) n_⟩ | refine ⟨fun n_ => absurd (show ¬ ((ed >>> (nI c &&& 31)) &&& 1) = 0 by rw [bit1_0 ed (by omega), z]; decide) n_, fun _ => ?_⟩ | refine ⟨fun y_ => absurd y_ (show ¬ ((ed >>> (nI c &&& 31)) &&& 1) = 0 by rw [bit1_0 ed (by omega), z]; decide), fun _ => ?_⟩ | refine ⟨fun _ => ?_, fun y_ => absurd y_ (show ¬ ((ed >>> (nI c &&& 31)) &&& 1) = 0 by rw [bit1_0 ed (by omega), z]; decide)⟩)
              refine ⟨by rw [hr.2.2.2.2.1]; exact (vp_nI (by omega)).mpr (by omega), ?_⟩
              rintro h15 rfl
              rw [ah_i_sn (fun z => hne z.1), (hr.2.2.1 a0 hne).1, ah_n_si]
              refine ⟨by rw [(hr.2.2.1 a0 hne).2.2.2.2, n0]; exact (vp_nI (by omega)).mpr (by omega), ?_⟩
              refine ihg (c + 1) _ _ (by omega) (rw2_set hr (by omega) (by omega)) (fun b hb => ?_) (.inr trivial) (fun b hb => ?_) (fun i hi => ?_)
              · split
                · rw [ah_i_si]
                  split
                  · rfl
                  · rename_i q1 q2
                    rcases hl b hb with ⟨n, hn, h1, h2⟩ | ⟨h1, h2⟩
                    · have := lst_u h1 ((hed b (by omega)).mp q1.2)
                      rw [h2, this]
                    · exact absurd ((hed b (by omega)).mp q1.2) (h1 d (.inr ⟨rfl, by omega⟩))
                · rfl
              · rw [ah_i_si]
                by_cases e : b = c
                · subst e
                  rw [if_pos ⟨rfl, rfl⟩]
                  exact .inl ⟨d, .inr ⟨rfl, by omega⟩, hlc, rfl⟩
                · rw [if_neg (by omega)]
                  rcases hl b hb with ⟨n, hn, h1, h2⟩ | ⟨h1, h2⟩
                  · exact .inl ⟨n, by omega, h1, h2⟩
                  · exact .inr ⟨fun n hn => h1 n (by omega), h2⟩
              · rw [b_or, Bool.or_eq_true, hre i hi, hN c (by omega) i hi]
                constructor
                · rintro (⟨x, hx, h1, h2⟩ | h2)
                  · exact ⟨x, by omega, h1, h2⟩
                  · exact ⟨c, by omega, hlc, h2⟩
                · rintro ⟨x, hx, h1, h2⟩
                  rcases Nat.lt_or_ge x c with k | k
                  · exact .inl ⟨x, k, h1, h2⟩
                  · have : x = c := by omega
                    subst this
                    exact .inr h2
            · have hlc : ¬ lst E fr c d := fun q => z ((hed c (by omega)).mpr q)
              (first | refine ⟨fun _ => ?_, fun n_ => absurd (show ((ed >>> (nI c &&& 31)) &&& 1) = 0 by rw [bit1_0 ed (by omega)]; exact Bool.eq_false_iff.mpr z) n_⟩ | refine ⟨fun n_ => absurd (show ((ed >>> (nI c &&& 31)) &&& 1) = 0 by rw [bit1_0 ed (by omega)]; exact Bool.eq_false_iff.mpr z) n_, fun _ => ?_⟩ | refine ⟨fun y_ => absurd y_ (show ((ed >>> (nI c &&& 31)) &&& 1) = 0 by rw [bit1_0 ed (by omega)]; exact Bool.eq_false_iff.mpr z), fun _ => ?_⟩ | refine ⟨fun _ => ?_, fun y_ => absurd y_ (show ((ed >>> (nI c &&& 31)) &&& 1) = 0 by rw [bit1_0 ed (by omega)]; exact Bool.eq_false_iff.mpr z)⟩)
              refine ihg (c + 1) _ _ (by omega) hr (fun b hb => ?_) (.inr trivial) (fun b hb => ?_) (fun i hi => ?_)
              · split
                · rename_i q1
                  rcases hl b hb with ⟨n, hn, h1, h2⟩ | ⟨h1, h2⟩
                  · have := lst_u h1 ((hed b (by omega)).mp q1.2)
                    rw [h2, this]
                  · refine absurd ((hed b (by omega)).mp q1.2) (h1 d (.inr ⟨rfl, ?_⟩))
                    rcases Nat.lt_or_ge b c with k | k
                    · exact k
                    · have : b = c := by omega
                      subst this
                      exact absurd q1.2 z
                · rfl
              · rcases hl b hb with ⟨n, hn, h1, h2⟩ | ⟨h1, h2⟩
                · exact .inl ⟨n, by omega, h1, h2⟩
                · refine .inr ⟨fun n hn hq2 => ?_, h2⟩
                  rcases hn with k | ⟨k1, k2⟩
                  · exact h1 n (.inl k) hq2
                  · subst k1
                    rcases Nat.lt_or_ge b c with k | k
                    · exact h1 n (.inr ⟨rfl, k⟩) hq2
                    · have : b = c := by omega
                      subst this
                      exact hlc hq2
              · rw [hre i hi]
                constructor
                · rintro ⟨x, hx, h1, h2⟩
                  exact ⟨x, by omega, h1, h2⟩
                · rintro ⟨x, hx, h1, h2⟩
                  rcases Nat.lt_or_ge x c with k | k
                  · exact ⟨x, k, h1, h2⟩
                  · have : x = c := by omega
                    subst this
                    exact absurd h1 hlc
        refine inner 12 0 h 0 (by omega) hr (fun b hb => by rw [if_neg (by omega)]) (.inr trivial) (fun b hb => ?_) (fun i hi => by rw [b_0]; simp)
        rcases hl b hb with ⟨n, hn, h1, h2⟩ | ⟨h1, h2⟩
        · exact .inl ⟨n, .inl hn, h1, h2⟩
        · exact .inr ⟨fun n hn => h1 n (by omega), h2⟩
  refine outer 12 0 _ _ _ (by omega) ⟨sh_fl hs0, x_fl, fun a n => eqc_fl eqc_rfl n, rfl, rfl, fun i hi => by rw [ah_i_fl, if_neg (by omega)]⟩ (fun b hb => .inr ⟨fun n hn => by omega, by rw [ah_i_fl, if_pos (by omega)]⟩) (fun i hi => ?_) (fun i hi => ?_)
  · rw [b_1sh (by omega) hi, decide_eq_true_eq]
    constructor
    · intro e; exact ⟨0, Nat.le_refl _, e.symm⟩
    · rintro ⟨n, hn, hw⟩
      have : n = 0 := by omega
      subst this
      exact hw.symm
  · rw [b_1sh (by omega) hi, decide_eq_true_eq]
    constructor
    · intro e; exact ⟨e.symm, fun m hm => by omega⟩
    · intro hw; exact hw.1.symm
end SP
