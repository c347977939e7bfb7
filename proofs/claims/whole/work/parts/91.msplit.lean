/-! ===== the model splits its tape into tokens ===== -/
theorem sB_kd : ∀ b, b < 256 → (f_X12_isSmall (sB b) = 0 ↔ kd b ≠ 3) ∧ (f_X12_isDigit (sB b) = 0 ↔ kd b ≠ 2) ∧ (sB b = 32 ↔ kd b = 0) ∧ sB b &&& 255 = nI b ∧ (kd b = 2 → sB b = nI b ∧ 48 ≤ b) := by decide +kernel
abbrev tz : Nat × Nat × Nat := (0, 0, 0)
/-- the model's cells while it splits -/
def sFr (h0 h : ah_T) : Prop := Sh h ∧ ah_x h = ah_x h0 ∧ (∀ a, a ≠ 82 → a ≠ 90 → a ≠ 91 → a ≠ 92 → eqc h0 h a) ∧ ∀ j, j ≠ 16 → ah_i h 82 j = ah_i h0 82 j
def sP (h0 h : ah_T) (P : List (Nat × Nat × Nat)) : Prop := sFr h0 h ∧ ah_i h 82 16 = nI P.length ∧ ∀ j, j < P.length → ah_i h 90 j = nI (P.getD j tz).1 ∧ ah_i h 91 j = nI (P.getD j tz).2.1 ∧ ah_i h 92 j = nI (P.getD j tz).2.2
theorem sFr_set {h0 h : ah_T} {a j : Nat} {x : Int32} (q : sFr h0 h) (ha : a = 90 ∨ a = 91 ∨ a = 92) : sFr h0 (ah_si h a j x) :=
  ⟨sh_si q.1, by rw [ah_x_si, q.2.1], fun b n1 n2 n3 n4 => eqc_si (q.2.2.1 b n1 n2 n3 n4) (by omega), fun k hk => by rw [ah_i_sn (by omega)]; exact q.2.2.2 k hk⟩
theorem sFr_16 {h0 h : ah_T} {x : Int32} (q : sFr h0 h) : sFr h0 (ah_si h 82 16 x) :=
  ⟨sh_si q.1, by rw [ah_x_si, q.2.1], fun b n1 n2 n3 n4 => eqc_si (q.2.2.1 b n1 n2 n3 n4) n1, fun k hk => by rw [ah_i_sn (by omega)]; exact q.2.2.2 k hk⟩
theorem m_splits {Q : Option Value → ah_T → Prop} {h0 : ah_T} (hs0 : Sh h0) {D : Nat → Nat} {d : Nat} {x : Int32} (ex : x = nI d) (hd : d ≤ 400) (hD0 : ∀ j, j < d → D j < 256 ∧ ah_i h0 88 j = sB (D j)) (n87' : ah_n h0 87 = mBy.length) (hW0 : ∀ j, j < mBy.length → ah_i h0 87 j = nI (mBy.getD j 0))
    (hq : ∀ h, sP h0 h (tks D d d 0) → ah_i h 90 (tks D d d 0).length = 0 → ah_i h 91 (tks D d d 0).length = 0 → ah_i h 92 (tks D d d 0).length = nI d → Q none h) : Mt mX12_splits [.ref 82, .int x] h0 Q := by
  subst ex
  refine T_X12_splits hs0 _ ?_
  rintro h1 rfl
  have n88 : ∀ {h}, Sh h → ah_n h 88 = 400 := fun hs => sh_n hs 88 400 (by decide) (by decide) rfl
  have n90 : ∀ {h}, Sh h → ah_n h 90 = 401 := fun hs => sh_n hs 90 401 (by decide) (by decide) rfl
  have n91 : ∀ {h}, Sh h → ah_n h 91 = 401 := fun hs => sh_n hs 91 401 (by decide) (by decide) rfl
  have n92 : ∀ {h}, Sh h → ah_n h 92 = 401 := fun hs => sh_n hs 92 401 (by decide) (by decide) rfl
  have tp : ∀ {h}, sFr h0 h → ∀ j, j < d → D j < 256 ∧ ah_i h 88 j = sB (D j) := fun q j hj => by rw [(q.2.2.1 88 (by decide) (by decide) (by decide) (by decide)).1]; exact hD0 j hj
  have lp : ∀ (f k : Nat) (P : List (Nat × Nat × Nat)) (h : ah_T), d - k ≤ f → k ≤ d → P.length ≤ k → sP h0 h P → P ++ tks D d f k = tks D d d 0 → Wp mX12_splits Q 0 0 7 [some (.ref 82), some (.int (nI d)), some (.int (nI k)), none, none, none] [] h := by
    intro f
    have fin : ∀ (f k : Nat) (P : List (Nat × Nat × Nat)) (h : ah_T), d ≤ k → k ≤ d → P.length ≤ k → sP h0 h P → P ++ tks D d f k = tks D d d 0 → Wp mX12_splits Q 0 0 7 [some (.ref 82), some (.int (nI d)), some (.int (nI k)), none, none, none] [] h := by
      intro f k P h hk hk2 hP q e
      have e0 : tks D d f k = [] := by
        rw [tks_f D d f 0 k (by omega) (by omega)]; rfl
      rw [e0, List.append_nil] at e
      obtain ⟨q1, q2, q3⟩ := q
      refine T_X12_splits_7 q1.1 _ _ ?_
      (first | refine ⟨fun _ => ?_, fun n_ => absurd (show nI d ≤ nI k from nI_le hk (by omega)) n_⟩ | refine ⟨fun n_ => absurd (show nI d ≤ nI k from nI_le hk (by omega)) n_, fun _ => ?_⟩ | refine ⟨fun y_ => absurd y_ (show nI d ≤ nI k from nI_le hk (by omega)), fun _ => ?_⟩ | refine ⟨fun _ => ?_, fun y_ => absurd y_ (show nI d ≤ nI k from nI_le hk (by omega))⟩)
      rw [q2, nI_clamp (by omega), n92 q1.1]
      refine ⟨(vp_nI (by omega)).mpr (by omega), ?_⟩
      rintro h6 rfl
      rw [ah_i_sn (by omega), q2, nI_clamp (by omega), ah_n_si, n90 q1.1]
      refine ⟨(vp_nI (by omega)).mpr (by omega), ?_⟩
      rintro h10 rfl
      rw [ah_i_sn (by omega), ah_i_sn (by omega), q2, nI_clamp (by omega), ah_n_si, ah_n_si, n91 q1.1]
      refine ⟨(vp_nI (by omega)).mpr (by omega), ?_⟩
      rintro h14 rfl
      rw [e] at hP q2 q3 ⊢
      have f3 := sFr_set (j := (tks D d d 0).length) (x := 0) (sFr_set (j := (tks D d d 0).length) (x := 0) (sFr_set (j := (tks D d d 0).length) (x := nI d) q1 (.inr (.inr rfl))) (.inl rfl)) (.inr (.inl rfl))
      refine hq _ ⟨f3, by rw [ah_i_sn (by omega), ah_i_sn (by omega), ah_i_sn (by omega)]; exact q2, fun j hj => ?_⟩ (by rw [ah_i_sn (by omega), ah_i_ss]) (by rw [ah_i_ss]) (by rw [ah_i_sn (by omega), ah_i_sn (by omega), ah_i_ss])
      have := q3 j hj
      rw [ah_i_sn (by omega), ah_i_sn (by omega), ah_i_sn (by omega), ah_i_sn (by omega), ah_i_sn (by omega), ah_i_sn (by omega), ah_i_sn (by omega), ah_i_sn (by omega), ah_i_sn (by omega)]
      exact this
    induction f with
    | zero =>
      intro k P h hf hk hP q e
      exact fin 0 k P h (by omega) hk hP q e
    | succ f ih =>
      intro k P h hf hk hP q e
      rcases Nat.lt_or_ge k d with c | c
      · have hs := q.1.1
        obtain ⟨b1, b2⟩ := tp q.1 k c
        obtain ⟨s1, s2, s3, s4, s5⟩ := sB_kd (D k) b1
        have hE := eA_in (D := D) c
        refine T_X12_splits_7 hs _ _ ?_
        (first | refine ⟨fun _ => ?_, fun n_ => absurd (show ¬ nI d ≤ nI k from nI_ge c (by omega)) n_⟩ | refine ⟨fun n_ => absurd (show ¬ nI d ≤ nI k from nI_ge c (by omega)) n_, fun _ => ?_⟩ | refine ⟨fun y_ => absurd y_ (show ¬ nI d ≤ nI k from nI_ge c (by omega)), fun _ => ?_⟩ | refine ⟨fun _ => ?_, fun y_ => absurd y_ (show ¬ nI d ≤ nI k from nI_ge c (by omega))⟩)
        rw [nI_clamp (by omega), b2, nI_1]
        rw [tks_s] at e
        rw [if_neg (show ¬ d ≤ k by omega)] at e
        refine ⟨by rw [n88 hs]; exact (vp_nI (by omega)).mpr (by omega), fun z => ?_, fun z => ?_⟩
        · have k0 : kd (D k) ≠ 0 := fun y => z (s3.mpr y)
          rw [if_neg k0] at e
          -- a token from k to its end
          have tok : Wp mX12_splits Q 0 0 100 [some (.ref 82), some (.int (nI d)), some (.int (nI k)), some (.int (sB (D k))), some (.int (nI (eA D d k))), none] [] h := by
            obtain ⟨cl1, cl2⟩ := tcA_le c (fun j hj => (tp q.1 j hj).1)
            have nxt : ∀ h', sP h0 h' (P ++ [(tcA D k (eA D d k), vlA D k (eA D d k), k)]) → Wp mX12_splits Q 0 0 7 [some (.ref 82), some (.int (nI d)), some (.int (nI (eA D d k))), none, none, none] [] h' := by
              intro h' q'
              exact ih (eA D d k) _ h' (by omega) hE.2 (by simp; omega) q' (by rw [List.append_assoc]; exact e)
            have end1 : ∀ h', sFr h0 h' → ah_i h' 82 16 = nI P.length → (∀ j, j < P.length → ah_i h' 90 j = nI (P.getD j tz).1 ∧ ah_i h' 91 j = nI (P.getD j tz).2.1 ∧ ah_i h' 92 j = nI (P.getD j tz).2.2) → ah_i h' 90 P.length = nI (tcA D k (eA D d k)) → ah_i h' 91 P.length = nI (vlA D k (eA D d k)) → ah_i h' 92 P.length = nI k → Wp mX12_splits Q 0 0 247 [some (.ref 82), some (.int (nI d)), none, none, some (.int (nI (eA D d k))), none] [] h' := by
              intro h' g1 g2 g3 g4 g5 g6
              refine T_X12_splits_247 g1.1 _ _ ?_
              rintro h67 rfl
              refine nxt _ ⟨sFr_16 g1, by rw [ah_i_ss, g2, nI_1]; simp, fun j hj => ?_⟩
              rw [ah_i_sn (by omega), ah_i_sn (by omega), ah_i_sn (by omega)]
              simp at hj
              rcases Nat.lt_or_ge j P.length with y | y
              · have : (P ++ [(tcA D k (eA D d k), vlA D k (eA D d k), k)]).getD j tz = P.getD j tz := by simp [List.getD, List.getElem?_append_left y]
                rw [this]; exact g3 j y
              · have : j = P.length := by omega
                subst this
                have : (P ++ [(tcA D k (eA D d k), vlA D k (eA D d k), k)]).getD P.length tz = (tcA D k (eA D d k), vlA D k (eA D d k), k) := by simp [List.getD]
                rw [this]; exact ⟨g4, g5, g6⟩
            -- behind the code: the value
            have num : ∀ (g i v : Nat) (h' : ah_T), i + g = eA D d k → k ≤ i → v ≤ 10000009 → (kd (D k) = 2 → nvl D g i v = vlA D k (eA D d k) ∧ ∀ j, i ≤ j → j < eA D d k → kd (D j) = 2) → (kd (D k) ≠ 2 → v = 0) → sFr h0 h' → ah_i h' 82 16 = nI P.length → (∀ j, j < P.length → ah_i h' 90 j = nI (P.getD j tz).1 ∧ ah_i h' 91 j = nI (P.getD j tz).2.1 ∧ ah_i h' 92 j = nI (P.getD j tz).2.2) → ah_i h' 90 P.length = nI (tcA D k (eA D d k)) → ah_i h' 91 P.length = nI v → ah_i h' 92 P.length = nI k → Wp mX12_splits Q 0 0 169 [some (.ref 82), some (.int (nI d)), none, some (.int (sB (D k))), some (.int (nI (eA D d k))), some (.int (nI i))] [] h' := by
              intro g
              induction g with
              | zero =>
                intro i v h' hi hki hv hn hv0 g1 g2 g3 g4 g5 g6
                refine T_X12_splits_169 g1.1 _ _ _ _ ?_
                (first | refine ⟨fun _ => ?_, fun n_ => absurd (show nI (eA D d k) ≤ nI i from nI_le (by omega) (by omega)) n_⟩ | refine ⟨fun n_ => absurd (show nI (eA D d k) ≤ nI i from nI_le (by omega) (by omega)) n_, fun _ => ?_⟩ | refine ⟨fun y_ => absurd y_ (show nI (eA D d k) ≤ nI i from nI_le (by omega) (by omega)), fun _ => ?_⟩ | refine ⟨fun _ => ?_, fun y_ => absurd y_ (show nI (eA D d k) ≤ nI i from nI_le (by omega) (by omega))⟩)
                refine end1 h' g1 g2 g3 g4 ?_ g6
                rw [g5]
                by_cases y : kd (D k) = 2
                · rw [← (hn y).1]; rfl
                · rw [hv0 y]; unfold vlA; rw [if_neg y]
              | succ g ihg =>
                intro i v h' hi hki hv hn hv0 g1 g2 g3 g4 g5 g6
                refine T_X12_splits_169 g1.1 _ _ _ _ ?_
                (first | refine ⟨fun _ => ?_, fun n_ => absurd (show ¬ nI (eA D d k) ≤ nI i from nI_ge (by omega) (by omega)) n_⟩ | refine ⟨fun n_ => absurd (show ¬ nI (eA D d k) ≤ nI i from nI_ge (by omega) (by omega)) n_, fun _ => ?_⟩ | refine ⟨fun y_ => absurd y_ (show ¬ nI (eA D d k) ≤ nI i from nI_ge (by omega) (by omega)), fun _ => ?_⟩ | refine ⟨fun _ => ?_, fun y_ => absurd y_ (show ¬ nI (eA D d k) ≤ nI i from nI_ge (by omega) (by omega))⟩)
                by_cases y : kd (D k) = 2
                · (first | refine ⟨fun _ => ?_, fun n_ => absurd (show ¬ f_X12_isDigit (sB (D k)) = 0 from fun w => s2.mp w y) n_⟩ | refine ⟨fun n_ => absurd (show ¬ f_X12_isDigit (sB (D k)) = 0 from fun w => s2.mp w y) n_, fun _ => ?_⟩ | refine ⟨fun y_ => absurd y_ (show ¬ f_X12_isDigit (sB (D k)) = 0 from fun w => s2.mp w y), fun _ => ?_⟩ | refine ⟨fun _ => ?_, fun y_ => absurd y_ (show ¬ f_X12_isDigit (sB (D k)) = 0 from fun w => s2.mp w y)⟩)
                  have hdi := (hn y).2 i (Nat.le_refl _) (by omega)
                  obtain ⟨t1, t2⟩ := tp g1 i (by omega)
                  obtain ⟨u1, u2⟩ := (sB_kd (D i) t1).2.2.2.2 hdi
                  have v91 : vp_in (nI P.length) 401 := (vp_nI (by omega)).mpr (by omega)
                  rw [g2, nI_clamp (by omega), g5, nI_clamp (by omega), t2, u1, n91 g1.1, n88 g1.1, nI_1]
                  have v88 : vp_in (nI i) 400 := (vp_nI (by omega)).mpr (by omega)
                  have hD57 : D i ≤ 57 := by
                    unfold kd at hdi
                    split at hdi
                    · omega
                    · split at hdi
                      · omega
                      · split at hdi <;> omega
                  have step : ∀ v', v' = (if 1000000 < v then v else 10 * v + (D i - 48)) → v' ≤ 10000009 → Wp mX12_splits Q 0 0 169 [some (.ref 82), some (.int (nI d)), none, some (.int (sB (D k))), some (.int (nI (eA D d k))), some (.int (nI (i + 1)))] [] (ah_si h' 91 P.length (nI v')) := by
                    intro v' ev hv'
                    refine ihg (i + 1) v' _ (by omega) (by omega) hv' (fun w => ⟨?_, fun j h1 h2 => (hn w).2 j (by omega) h2⟩) (fun w => absurd y w) (sFr_set g1 (.inr (.inl rfl))) (by rw [ah_i_sn (by omega)]; exact g2) (fun j hj => ?_) (by rw [ah_i_sn (by omega)]; exact g4) ah_i_ss (by rw [ah_i_sn (by omega)]; exact g6)
                    · rw [ev, ← (hn w).1]; rfl
                    · rw [ah_i_sn (by omega), ah_i_sn (by omega), ah_i_sn (by omega)]; exact g3 j hj
                  refine ⟨v91, fun w => ⟨v91, v88, v91, ?_⟩, fun w => ⟨v91, v91, ?_⟩⟩
                  · rintro h59 rfl
                    have w2 : ¬ 1000000 < v := by
                      rw [n_1000000, nI_leI (by omega) (by omega)] at w
                      omega
                    have ee : 10 * nI v + nI (D i) - 48 = nI (10 * v + (D i - 48)) := by
                      rw [n_10, nI_mul, nI_add, show (48 : Int32) = nI 48 from rfl, nI_sub (by omega)]
                      congr 1
                      omega
                    rw [ee]
                    exact step _ (by rw [if_neg w2]) (by omega)
                  · rintro h64 rfl
                    have w2 : 1000000 < v := by
                      rw [n_1000000, nI_leI (by omega) (by omega)] at w
                      omega
                    exact step _ (by rw [if_pos w2]) hv
                · (first | refine ⟨fun _ => ?_, fun n_ => absurd (show f_X12_isDigit (sB (D k)) = 0 from s2.mpr y) n_⟩ | refine ⟨fun n_ => absurd (show f_X12_isDigit (sB (D k)) = 0 from s2.mpr y) n_, fun _ => ?_⟩ | refine ⟨fun y_ => absurd y_ (show f_X12_isDigit (sB (D k)) = 0 from s2.mpr y), fun _ => ?_⟩ | refine ⟨fun _ => ?_, fun y_ => absurd y_ (show f_X12_isDigit (sB (D k)) = 0 from s2.mpr y)⟩)
                  refine end1 h' g1 g2 g3 g4 ?_ g6
                  rw [g5, hv0 y]
                  unfold vlA
                  rw [if_neg y]
            obtain ⟨q1, q2, q3⟩ := q
            refine T_X12_splits_100 hs _ _ _ _ ?_
            rw [q2, nI_clamp (by omega), n92 hs]
            refine ⟨(vp_nI (by omega)).mpr (by omega), ?_⟩
            rintro h25 rfl
            rw [ah_i_sn (by omega), q2, nI_clamp (by omega), ah_n_si, n91 hs]
            refine ⟨(vp_nI (by omega)).mpr (by omega), ?_⟩
            rintro h29 rfl
            have f2 := sFr_set (j := P.length) (x := 0) (sFr_set (j := P.length) (x := nI k) q1 (.inr (.inr rfl))) (.inr (.inl rfl))
            rw [ah_i_sn (by omega), ah_i_sn (by omega), q2, nI_clamp (by omega), ah_n_si, ah_n_si, n90 hs]
            have v90 : vp_in (nI P.length) 401 := (vp_nI (by omega)).mpr (by omega)
            have fin2 : ∀ y : Int32, y = nI (tcA D k (eA D d k)) → Wp mX12_splits Q 0 0 169 [some (.ref 82), some (.int (nI d)), none, some (.int (sB (D k))), some (.int (nI (eA D d k))), some (.int (nI k))] [] (ah_si (ah_si (ah_si h 92 P.length (nI k)) 91 P.length 0) 90 P.length y) := by
              intro y ey
              refine num (eA D d k - k) k 0 _ (by omega) (Nat.le_refl _) (by omega) (fun w => ⟨?_, fun j h1 h2 => ?_⟩) (fun _ => rfl) (sFr_set f2 (.inl rfl)) (by rw [ah_i_sn (by omega), ah_i_sn (by omega), ah_i_sn (by omega)]; exact q2) (fun j hj => ?_) (by rw [ah_i_ss, ey]) (by rw [ah_i_sn (by omega), ah_i_ss]; rfl) (by rw [ah_i_sn (by omega), ah_i_sn (by omega), ah_i_ss])
              · unfold vlA; rw [if_pos w]
              · have ee : eA D d k = rn D d 2 d (k + 1) := by unfold eA; rw [if_neg (by omega), w]
                by_cases y2 : j = k
                · subst y2; exact w
                · exact rn_all D d 2 d (k + 1) j (by omega) (by rw [← ee]; exact h2)
              · rw [ah_i_sn (by omega), ah_i_sn (by omega), ah_i_sn (by omega), ah_i_sn (by omega), ah_i_sn (by omega), ah_i_sn (by omega), ah_i_sn (by omega), ah_i_sn (by omega), ah_i_sn (by omega)]
                exact q3 j hj
            refine ⟨fun w => ⟨fun w2 => ⟨v90, ?_⟩, fun w2 => ⟨v90, ?_⟩⟩, fun w => ?_⟩
            · rintro h35 rfl
              refine fin2 _ ?_
              unfold tcA
              rw [if_neg (s1.mp w), if_neg (s2.mp w2), s4, n_100, nI_add]
            · rintro h39 rfl
              refine fin2 _ ?_
              have w3 : kd (D k) = 2 := by
                by_cases y : kd (D k) = 2
                · exact y
                · exact absurd (s2.mpr y) w2
              unfold tcA
              rw [if_neg (s1.mp w), if_pos w3]
              rfl
            · have w3 : kd (D k) = 3 := by
                by_cases y : kd (D k) = 3
                · exact y
                · exact absurd (s1.mpr y) w
              have e87 := f2.2.2.1 87 (by decide) (by decide) (by decide) (by decide)
              refine m_wordOf f2.1 hE.1 hE.2 hd (tp f2) (by rw [e87.2.2.2.2]; exact n87') (fun j hj => by rw [e87.1]; exact hW0 j hj) ⟨_, rfl, f2.1, ?_⟩
              rw [ah_n_si, ah_n_si, n90 hs]
              refine ⟨v90, ?_⟩
              rintro h46 rfl
              refine fin2 _ ?_
              unfold tcA
              rw [if_pos w3]
          -- its end
          by_cases k3 : kd (D k) = 3
          · (first | refine ⟨fun _ => ?_, fun n_ => absurd (show ¬ f_X12_isSmall (sB (D k)) = 0 from fun w => s1.mp w k3) n_⟩ | refine ⟨fun n_ => absurd (show ¬ f_X12_isSmall (sB (D k)) = 0 from fun w => s1.mp w k3) n_, fun _ => ?_⟩ | refine ⟨fun y_ => absurd y_ (show ¬ f_X12_isSmall (sB (D k)) = 0 from fun w => s1.mp w k3), fun _ => ?_⟩ | refine ⟨fun _ => ?_, fun y_ => absurd y_ (show ¬ f_X12_isSmall (sB (D k)) = 0 from fun w => s1.mp w k3)⟩)
            have lt : ∀ (g j : Nat), d - j ≤ g → k < j → j ≤ d → rn D d 3 g j = eA D d k → Wp mX12_splits Q 0 0 43 [some (.ref 82), some (.int (nI d)), some (.int (nI k)), some (.int (sB (D k))), some (.int (nI j)), none] [] h := by
              intro g
              have stop : ∀ (j : Nat), j = eA D d k → Wp mX12_splits Q 0 0 68 [some (.ref 82), some (.int (nI d)), some (.int (nI k)), some (.int (sB (D k))), some (.int (nI j)), none] [] h := by
                rintro j rfl
                refine T_X12_splits_68 hs _ _ _ _ ?_
                (first | refine ⟨fun _ => ?_, fun n_ => absurd (show f_X12_isDigit (sB (D k)) = 0 from s2.mpr (by omega)) n_⟩ | refine ⟨fun n_ => absurd (show f_X12_isDigit (sB (D k)) = 0 from s2.mpr (by omega)) n_, fun _ => ?_⟩ | refine ⟨fun y_ => absurd y_ (show f_X12_isDigit (sB (D k)) = 0 from s2.mpr (by omega)), fun _ => ?_⟩ | refine ⟨fun _ => ?_, fun y_ => absurd y_ (show f_X12_isDigit (sB (D k)) = 0 from s2.mpr (by omega))⟩)
                exact tok
              induction g with
              | zero =>
                intro j hj hkj hjd hr
                refine T_X12_splits_43 hs _ _ _ _ ?_
                (first | refine ⟨fun _ => ?_, fun n_ => absurd (show nI d ≤ nI j from nI_le (by omega) (by omega)) n_⟩ | refine ⟨fun n_ => absurd (show nI d ≤ nI j from nI_le (by omega) (by omega)) n_, fun _ => ?_⟩ | refine ⟨fun y_ => absurd y_ (show nI d ≤ nI j from nI_le (by omega) (by omega)), fun _ => ?_⟩ | refine ⟨fun _ => ?_, fun y_ => absurd y_ (show nI d ≤ nI j from nI_le (by omega) (by omega))⟩)
                exact stop j hr
              | succ g ihg =>
                intro j hj hkj hjd hr
                refine T_X12_splits_43 hs _ _ _ _ ?_
                unfold rn at hr
                rcases Nat.lt_or_ge j d with y | y
                · (first | refine ⟨fun _ => ?_, fun n_ => absurd (show ¬ nI d ≤ nI j from nI_ge y (by omega)) n_⟩ | refine ⟨fun n_ => absurd (show ¬ nI d ≤ nI j from nI_ge y (by omega)) n_, fun _ => ?_⟩ | refine ⟨fun y_ => absurd y_ (show ¬ nI d ≤ nI j from nI_ge y (by omega)), fun _ => ?_⟩ | refine ⟨fun _ => ?_, fun y_ => absurd y_ (show ¬ nI d ≤ nI j from nI_ge y (by omega))⟩)
                  obtain ⟨t1, t2⟩ := tp q.1 j y
                  rw [nI_clamp (by omega), t2, nI_1, n88 hs]
                  have ss := (sB_kd (D j) t1).1
                  refine ⟨(vp_nI (by omega)).mpr (by omega), fun w => ?_, fun w => ?_⟩
                  · rw [if_neg (fun u => ss.mp w u.2)] at hr
                    exact stop j hr
                  · have w2 : kd (D j) = 3 := by
                      by_cases v : kd (D j) = 3
                      · exact v
                      · exact absurd (ss.mpr v) w
                    rw [if_pos ⟨y, w2⟩] at hr
                    exact ihg (j + 1) (by omega) (by omega) y hr
                · (first | refine ⟨fun _ => ?_, fun n_ => absurd (show nI d ≤ nI j from nI_le y (by omega)) n_⟩ | refine ⟨fun n_ => absurd (show nI d ≤ nI j from nI_le y (by omega)) n_, fun _ => ?_⟩ | refine ⟨fun y_ => absurd y_ (show nI d ≤ nI j from nI_le y (by omega)), fun _ => ?_⟩ | refine ⟨fun _ => ?_, fun y_ => absurd y_ (show nI d ≤ nI j from nI_le y (by omega))⟩)
                  rw [if_neg (by omega)] at hr
                  exact stop j hr
            refine lt d (k + 1) (by omega) (by omega) c ?_
            unfold eA
            rw [if_neg (by omega), k3]
          · (first | refine ⟨fun _ => ?_, fun n_ => absurd (show f_X12_isSmall (sB (D k)) = 0 from s1.mpr k3) n_⟩ | refine ⟨fun n_ => absurd (show f_X12_isSmall (sB (D k)) = 0 from s1.mpr k3) n_, fun _ => ?_⟩ | refine ⟨fun y_ => absurd y_ (show f_X12_isSmall (sB (D k)) = 0 from s1.mpr k3), fun _ => ?_⟩ | refine ⟨fun _ => ?_, fun y_ => absurd y_ (show f_X12_isSmall (sB (D k)) = 0 from s1.mpr k3)⟩)
            refine T_X12_splits_68 hs _ _ _ _ ?_
            by_cases k2 : kd (D k) = 2
            · (first | refine ⟨fun _ => ?_, fun n_ => absurd (show ¬ f_X12_isDigit (sB (D k)) = 0 from fun w => s2.mp w k2) n_⟩ | refine ⟨fun n_ => absurd (show ¬ f_X12_isDigit (sB (D k)) = 0 from fun w => s2.mp w k2) n_, fun _ => ?_⟩ | refine ⟨fun y_ => absurd y_ (show ¬ f_X12_isDigit (sB (D k)) = 0 from fun w => s2.mp w k2), fun _ => ?_⟩ | refine ⟨fun _ => ?_, fun y_ => absurd y_ (show ¬ f_X12_isDigit (sB (D k)) = 0 from fun w => s2.mp w k2)⟩)
              have lt : ∀ (g j : Nat), d - j ≤ g → k < j → j ≤ d → rn D d 2 g j = eA D d k → Wp mX12_splits Q 0 0 75 [some (.ref 82), some (.int (nI d)), some (.int (nI k)), some (.int (sB (D k))), some (.int (nI j)), none] [] h := by
                intro g
                induction g with
                | zero =>
                  intro j hj hkj hjd hr
                  refine T_X12_splits_75 hs _ _ _ _ ?_
                  (first | refine ⟨fun _ => ?_, fun n_ => absurd (show nI d ≤ nI j from nI_le (by omega) (by omega)) n_⟩ | refine ⟨fun n_ => absurd (show nI d ≤ nI j from nI_le (by omega) (by omega)) n_, fun _ => ?_⟩ | refine ⟨fun y_ => absurd y_ (show nI d ≤ nI j from nI_le (by omega) (by omega)), fun _ => ?_⟩ | refine ⟨fun _ => ?_, fun y_ => absurd y_ (show nI d ≤ nI j from nI_le (by omega) (by omega))⟩)
                  have hr2 : j = eA D d k := hr
                  rw [hr2]
                  exact tok
                | succ g ihg =>
                  intro j hj hkj hjd hr
                  refine T_X12_splits_75 hs _ _ _ _ ?_
                  unfold rn at hr
                  rcases Nat.lt_or_ge j d with y | y
                  · (first | refine ⟨fun _ => ?_, fun n_ => absurd (show ¬ nI d ≤ nI j from nI_ge y (by omega)) n_⟩ | refine ⟨fun n_ => absurd (show ¬ nI d ≤ nI j from nI_ge y (by omega)) n_, fun _ => ?_⟩ | refine ⟨fun y_ => absurd y_ (show ¬ nI d ≤ nI j from nI_ge y (by omega)), fun _ => ?_⟩ | refine ⟨fun _ => ?_, fun y_ => absurd y_ (show ¬ nI d ≤ nI j from nI_ge y (by omega))⟩)
                    obtain ⟨t1, t2⟩ := tp q.1 j y
                    rw [nI_clamp (by omega), t2, nI_1, n88 hs]
                    have ss := (sB_kd (D j) t1).2.1
                    refine ⟨(vp_nI (by omega)).mpr (by omega), fun w => ?_, fun w => ?_⟩
                    · rw [if_neg (fun u => ss.mp w u.2)] at hr
                      rw [hr]
                      exact tok
                    · have w2 : kd (D j) = 2 := by
                        by_cases v : kd (D j) = 2
                        · exact v
                        · exact absurd (ss.mpr v) w
                      rw [if_pos ⟨y, w2⟩] at hr
                      exact ihg (j + 1) (by omega) (by omega) y hr
                  · (first | refine ⟨fun _ => ?_, fun n_ => absurd (show nI d ≤ nI j from nI_le y (by omega)) n_⟩ | refine ⟨fun n_ => absurd (show nI d ≤ nI j from nI_le y (by omega)) n_, fun _ => ?_⟩ | refine ⟨fun y_ => absurd y_ (show nI d ≤ nI j from nI_le y (by omega)), fun _ => ?_⟩ | refine ⟨fun _ => ?_, fun y_ => absurd y_ (show nI d ≤ nI j from nI_le y (by omega))⟩)
                    rw [if_neg (by omega)] at hr
                    rw [hr]
                    exact tok
              refine lt d (k + 1) (by omega) (by omega) c ?_
              unfold eA
              rw [if_neg (by omega), k2]
            · (first | refine ⟨fun _ => ?_, fun n_ => absurd (show f_X12_isDigit (sB (D k)) = 0 from s2.mpr k2) n_⟩ | refine ⟨fun n_ => absurd (show f_X12_isDigit (sB (D k)) = 0 from s2.mpr k2) n_, fun _ => ?_⟩ | refine ⟨fun y_ => absurd y_ (show f_X12_isDigit (sB (D k)) = 0 from s2.mpr k2), fun _ => ?_⟩ | refine ⟨fun _ => ?_, fun y_ => absurd y_ (show f_X12_isDigit (sB (D k)) = 0 from s2.mpr k2)⟩)
              have k1 : kd (D k) = 1 := by have := kd_le (D k); omega
              have ee : eA D d k = k + 1 := by unfold eA; rw [if_pos k1]
              rw [← ee]
              exact tok
        · rw [if_pos (s3.mp z)] at e
          exact ih (k + 1) P h (by omega) (by omega) (by omega) q e
      · exact fin (f + 1) k P h c hk hP q e
  refine lp d 0 [] _ (by omega) (Nat.zero_le _) (Nat.le_refl _) ⟨⟨sh_si hs0, ah_x_si _ _ _ _, fun b n1 _ _ _ => eqc_si eqc_rfl n1, fun j hj => by rw [ah_i_sn (by omega)]⟩, ah_i_ss, fun j hj => by simp at hj⟩ rfl
