/-! ===== the class splits its tape into tokens ===== -/
theorem kd_c : ∀ b, b < 256 → f_X5_kindOf (nI b) = nI (kd b) := by decide +kernel
theorem c_numberIn {Q : Option Value → ah_T → Prop} {h : ah_T} (hs : Sh h) {D : Nat → Nat} {a k e : Nat} (ka : ah_k h a = 14) (na : e ≤ ah_n h a) (hk : k < e) (he : e ≤ 400) (hD : ∀ j, k ≤ j → j < e → 48 ≤ D j ∧ D j ≤ 57 ∧ ah_i h a j = nI (D j)) (hq : Q (some (.int (nI (1000 + min (nvl D (e - k) k 0) 1001)))) h) : Mt mX5_numberIn [.ref a, .int (nI k), .int (nI e)] h Q := by
  refine T_X5_numberIn hs a _ _ ka ?_
  have lp : ∀ (g i v : Nat), i + g = e → k ≤ i → v ≤ 10000009 → nvl D g i v = nvl D (e - k) k 0 → Wp mX5_numberIn Q 0 0 5 [some (.ref a), none, some (.int (nI e)), some (.int (nI (min v 1001))), some (.int (nI i))] [] h := by
    intro g
    induction g with
    | zero =>
      intro i v hi hki hv hn
      refine T_X5_numberIn_5 hs a _ _ _ ka ?_
      (first | refine ⟨fun _ => ?_, fun n_ => absurd (show nI e ≤ nI i from nI_le (by omega) (by omega)) n_⟩ | refine ⟨fun n_ => absurd (show nI e ≤ nI i from nI_le (by omega) (by omega)) n_, fun _ => ?_⟩ | refine ⟨fun y_ => absurd y_ (show nI e ≤ nI i from nI_le (by omega) (by omega)), fun _ => ?_⟩ | refine ⟨fun _ => ?_, fun y_ => absurd y_ (show nI e ≤ nI i from nI_le (by omega) (by omega))⟩)
      rw [n_1000, nI_add]
      have : v = nvl D (e - k) k 0 := hn
      rw [this]
      exact hq
    | succ g ih =>
      intro i v hi hki hv hn
      obtain ⟨d1, d2, d3⟩ := hD i hki (by omega)
      refine T_X5_numberIn_5 hs a _ _ _ ka ?_
      (first | refine ⟨fun _ => ?_, fun n_ => absurd (show ¬ nI e ≤ nI i from nI_ge (by omega) (by omega)) n_⟩ | refine ⟨fun n_ => absurd (show ¬ nI e ≤ nI i from nI_ge (by omega) (by omega)) n_, fun _ => ?_⟩ | refine ⟨fun y_ => absurd y_ (show ¬ nI e ≤ nI i from nI_ge (by omega) (by omega)), fun _ => ?_⟩ | refine ⟨fun _ => ?_, fun y_ => absurd y_ (show ¬ nI e ≤ nI i from nI_ge (by omega) (by omega))⟩)
      refine ⟨(vp_nI (by omega)).mpr (by omega), ?_⟩
      rw [nI_clamp (by omega), d3, nI_1]
      have e1 : nI (min v 1001) * 10 + nI (D i) - 48 = nI (min v 1001 * 10 + (D i - 48)) := by
        rw [n_10, nI_mul, nI_add, show (48 : Int32) = nI 48 from rfl, nI_sub (by omega)]
        congr 1
        omega
      have e2 : (if 1001 < nI (min v 1001 * 10 + (D i - 48)) then 1001 else nI (min v 1001 * 10 + (D i - 48))) = nI (min (if 1000000 < v then v else 10 * v + (D i - 48)) 1001) := by
        have c1 : (1001 < nI (min v 1001 * 10 + (D i - 48))) ↔ 1001 < min v 1001 * 10 + (D i - 48) := nI_ltI (a := 1001) (by decide) (by omega)
        by_cases c : 1001 < min v 1001 * 10 + (D i - 48)
        · rw [if_pos (c1.mpr c), n_1001]
          congr 1
          split <;> omega
        · rw [if_neg (fun q => c (c1.mp q))]
          congr 1
          split <;> omega
      rw [e1, e2]
      refine ih (i + 1) _ (by omega) (by omega) ?_ hn
      split <;> omega
  exact lp (e - k) k 0 (by omega) (Nat.le_refl _) (by omega) rfl
/-- the class's cells while it splits -/
def tFr (h0 h : ah_T) : Prop := Sh h ∧ ah_x h = ah_x h0 ∧ ∀ a, a ≠ 21 → a ≠ 22 → eqc h0 h a
def tP (h0 h : ah_T) (P : List (Nat × Nat × Nat)) : Prop := tFr h0 h ∧ ∀ j, j < P.length → ah_i h 21 j = nI (tkO (P.getD j tz).1 (P.getD j tz).2.1) ∧ ah_i h 22 j = nI (P.getD j tz).2.2
theorem tFr_set {h0 h : ah_T} {a j : Nat} {x : Int32} (q : tFr h0 h) (ha : a = 21 ∨ a = 22) : tFr h0 (ah_si h a j x) :=
  ⟨sh_si q.1, by rw [ah_x_si, q.2.1], fun b n1 n2 => eqc_si (q.2.2 b n1 n2) (by omega)⟩
theorem c_split {Q : Option Value → ah_T → Prop} {h0 : ah_T} (hs0 : Sh h0) {D : Nat → Nat} {d : Nat} {x : Int32} (ex : x = nI d) (hd : d ≤ 400) (hD0 : ∀ j, j < d → D j < 256 ∧ ah_i h0 17 j = nI (D j))
    (hq : ∀ h, tP h0 h (tks D d d 0) → ah_i h 21 (tks D d d 0).length = 99 → ah_i h 22 (tks D d d 0).length = nI d → Q none h) : Mt mX5_split [.ref 20, .ref 17, .int x] h0 Q := by
  subst ex
  have k17 : ∀ {h}, Sh h → ah_k h 17 = 14 := fun hs => sh_k hs 17 14 (by decide) rfl
  have n17 : ∀ {h}, Sh h → ah_n h 17 = 400 := fun hs => sh_n hs 17 400 (by decide) (by decide) rfl
  have n21 : ∀ {h}, Sh h → ah_n h 21 = 401 := fun hs => sh_n hs 21 401 (by decide) (by decide) rfl
  have n22 : ∀ {h}, Sh h → ah_n h 22 = 401 := fun hs => sh_n hs 22 401 (by decide) (by decide) rfl
  have tp : ∀ {h}, tFr h0 h → ∀ j, j < d → D j < 256 ∧ ah_i h 17 j = nI (D j) := fun q j hj => by rw [(q.2.2 17 (by decide) (by decide)).1]; exact hD0 j hj
  refine T_X5_split hs0 17 _ (k17 hs0) ?_
  have lp : ∀ (f k u : Nat) (P : List (Nat × Nat × Nat)) (h : ah_T), d - k ≤ f → k ≤ d → P.length ≤ k → u ≤ k → tP h0 h P → P ++ tks D d f k = tks D d d 0 → Wp mX5_split Q 0 0 8 [some (.ref 20), some (.ref 17), some (.int (nI d)), some (.int (nI P.length)), some (.int (nI k)), some (.int (nI u)), none, none] [] h := by
    intro f
    have fin : ∀ (f k u : Nat) (P : List (Nat × Nat × Nat)) (h : ah_T), d ≤ k → k ≤ d → P.length ≤ k → u ≤ k → tP h0 h P → P ++ tks D d f k = tks D d d 0 → Wp mX5_split Q 0 0 8 [some (.ref 20), some (.ref 17), some (.int (nI d)), some (.int (nI P.length)), some (.int (nI k)), some (.int (nI u)), none, none] [] h := by
      intro f k u P h hk hk2 hP hu q e
      have e0 : tks D d f k = [] := by
        rw [tks_f D d f 0 k (by omega) (by omega)]; rfl
      rw [e0, List.append_nil] at e
      obtain ⟨q1, q3⟩ := q
      have hs := q1.1
      have go : vp_in (nI P.length) (ah_n h 21) ∧ (∀ h3, h3 = ah_si h 21 (Int32.toNatClampNeg (nI P.length)) 99 → (vp_in (nI P.length) (ah_n h3 22)) ∧ (∀ h8, h8 = ah_si h3 22 (Int32.toNatClampNeg (nI P.length)) (nI d) → Q none h8)) := by
        rw [nI_clamp (by omega), n21 hs]
        refine ⟨(vp_nI (by omega)).mpr (by omega), ?_⟩
        rintro h3 rfl
        rw [ah_n_si, n22 hs]
        refine ⟨(vp_nI (by omega)).mpr (by omega), ?_⟩
        rintro h8 rfl
        rw [e] at q3 ⊢
        refine hq _ ⟨tFr_set (tFr_set q1 (.inl rfl)) (.inr rfl), fun j hj => ?_⟩ (by rw [ah_i_sn (by omega), ah_i_ss]) (by rw [ah_i_ss])
        rw [ah_i_sn (by omega), ah_i_sn (by omega), ah_i_sn (by omega), ah_i_sn (by omega)]
        exact q3 j hj
      refine T_X5_split_8 hs 17 _ _ _ _ (k17 hs) ⟨fun _ => go, fun _ => ⟨fun _ => go, fun z => ?_⟩⟩
      exact absurd (nI_le hk (by omega)) z
    induction f with
    | zero =>
      intro k u P h hf hk hP hu q e
      exact fin 0 k u P h (by omega) hk hP hu q e
    | succ f ih =>
      intro k u P h hf hk hP hu q e
      rcases Nat.lt_or_ge k d with c | c
      · have hs := q.1.1
        obtain ⟨b1, b2⟩ := tp q.1 k c
        have hE := eA_in (D := D) c
        refine T_X5_split_8 hs 17 _ _ _ _ (k17 hs) ?_
        (first | refine ⟨fun _ => ?_, fun n_ => absurd (show ¬ 400 ≤ nI u from nI_ge (b := 400) (by omega) (by omega)) n_⟩ | refine ⟨fun n_ => absurd (show ¬ 400 ≤ nI u from nI_ge (b := 400) (by omega) (by omega)) n_, fun _ => ?_⟩ | refine ⟨fun y_ => absurd y_ (show ¬ 400 ≤ nI u from nI_ge (b := 400) (by omega) (by omega)), fun _ => ?_⟩ | refine ⟨fun _ => ?_, fun y_ => absurd y_ (show ¬ 400 ≤ nI u from nI_ge (b := 400) (by omega) (by omega))⟩)
        (first | refine ⟨fun _ => ?_, fun n_ => absurd (show ¬ nI d ≤ nI k from nI_ge c (by omega)) n_⟩ | refine ⟨fun n_ => absurd (show ¬ nI d ≤ nI k from nI_ge c (by omega)) n_, fun _ => ?_⟩ | refine ⟨fun y_ => absurd y_ (show ¬ nI d ≤ nI k from nI_ge c (by omega)), fun _ => ?_⟩ | refine ⟨fun _ => ?_, fun y_ => absurd y_ (show ¬ nI d ≤ nI k from nI_ge c (by omega))⟩)
        rw [nI_clamp (by omega), b2, kd_c _ b1, nI_1]
        refine ⟨by rw [n17 hs]; exact (vp_nI (by omega)).mpr (by omega), ?_⟩
        rw [tks_s] at e
        rw [if_neg (show ¬ d ≤ k by omega)] at e
        have kl := kd_le (D k)
        have run : ∀ (g j : Nat), d - j ≤ g → k < j → j ≤ d → (2 ≤ kd (D k) → rn D d (kd (D k)) g j = eA D d k) → (¬ 2 ≤ kd (D k) → j = k + 1) → Wp mX5_split Q 0 0 38 [some (.ref 20), some (.ref 17), some (.int (nI d)), some (.int (nI P.length)), some (.int (nI j)), some (.int (nI u)), some (.int (nI k)), some (.int (nI (kd (D k))))] [] h := by
          intro g
          induction g with
          | zero =>
            intro j hdj hkj hjd hr hr2
            have hj : kd (D k) ≠ 0 → j = eA D d k := by
              intro y
              by_cases y2 : 2 ≤ kd (D k)
              · exact hr y2
              · unfold eA; rw [if_pos (by omega)]; exact hr2 y2
            have hj2 : kd (D k) = 0 → j = k + 1 := fun y => hr2 (by omega)
            refine T_X5_split_38 hs 17 _ _ _ _ _ _ (k17 hs) ?_
            by_cases y : 2 ≤ kd (D k)
            · (first | refine ⟨fun _ => ?_, fun n_ => absurd (show ¬ nI (kd (D k)) ≤ 1 from nI_ge (a := 1) (by omega) (by omega)) n_⟩ | refine ⟨fun n_ => absurd (show ¬ nI (kd (D k)) ≤ 1 from nI_ge (a := 1) (by omega) (by omega)) n_, fun _ => ?_⟩ | refine ⟨fun y_ => absurd y_ (show ¬ nI (kd (D k)) ≤ 1 from nI_ge (a := 1) (by omega) (by omega)), fun _ => ?_⟩ | refine ⟨fun _ => ?_, fun y_ => absurd y_ (show ¬ nI (kd (D k)) ≤ 1 from nI_ge (a := 1) (by omega) (by omega))⟩)
              (first | refine ⟨fun _ => ?_, fun n_ => absurd (show nI d ≤ nI j from nI_le (by omega) (by omega)) n_⟩ | refine ⟨fun n_ => absurd (show nI d ≤ nI j from nI_le (by omega) (by omega)) n_, fun _ => ?_⟩ | refine ⟨fun y_ => absurd y_ (show nI d ≤ nI j from nI_le (by omega) (by omega)), fun _ => ?_⟩ | refine ⟨fun _ => ?_, fun y_ => absurd y_ (show nI d ≤ nI j from nI_le (by omega) (by omega))⟩)
              rw [nI_1 u]
              by_cases k0 : kd (D k) = 0
              · (first | refine ⟨fun _ => ?_, fun n_ => absurd (show nI (kd (D k)) = 0 by rw [k0]; rfl) n_⟩ | refine ⟨fun n_ => absurd (show nI (kd (D k)) = 0 by rw [k0]; rfl) n_, fun _ => ?_⟩ | refine ⟨fun y_ => absurd y_ (show nI (kd (D k)) = 0 by rw [k0]; rfl), fun _ => ?_⟩ | refine ⟨fun _ => ?_, fun y_ => absurd y_ (show nI (kd (D k)) = 0 by rw [k0]; rfl)⟩)
                rw [if_pos k0] at e
                rw [hj2 k0]
                exact ih (k + 1) (u + 1) P h (by omega) (by omega) (by omega) (by omega) q e
              · (first | refine ⟨fun _ => ?_, fun n_ => absurd (show ¬ nI (kd (D k)) = 0 from nI_ne0 (by omega) (by omega)) n_⟩ | refine ⟨fun n_ => absurd (show ¬ nI (kd (D k)) = 0 from nI_ne0 (by omega) (by omega)) n_, fun _ => ?_⟩ | refine ⟨fun y_ => absurd y_ (show ¬ nI (kd (D k)) = 0 from nI_ne0 (by omega) (by omega)), fun _ => ?_⟩ | refine ⟨fun _ => ?_, fun y_ => absurd y_ (show ¬ nI (kd (D k)) = 0 from nI_ne0 (by omega) (by omega))⟩)
                rw [if_neg k0] at e
                have hj3 := hj k0
                subst hj3
                obtain ⟨q1, q3⟩ := q
                obtain ⟨cl1, cl2⟩ := tcA_le c (fun j hj => (tp q1 j hj).1)
                rw [nI_clamp (show P.length < 2 ^ 31 by omega), n22 hs]
                refine ⟨(vp_nI (by omega)).mpr (by omega), ?_⟩
                rintro h27 rfl
                have f1 : tFr h0 (ah_si h 22 P.length (nI k)) := tFr_set q1 (.inr rfl)
                have v21 : vp_in (nI P.length) 401 := (vp_nI (by omega)).mpr (by omega)
                have nx : ∀ y : Int32, y = nI (tkO (tcA D k (eA D d k)) (vlA D k (eA D d k))) → Wp mX5_split Q 0 0 8 [some (.ref 20), some (.ref 17), some (.int (nI d)), some (.int (nI P.length + 1)), some (.int (nI (eA D d k))), some (.int (nI (u + 1))), none, none] [] (ah_si (ah_si h 22 P.length (nI k)) 21 P.length y) := by
                  intro y ey
                  have el : nI P.length + 1 = nI (P ++ [(tcA D k (eA D d k), vlA D k (eA D d k), k)]).length := by rw [nI_1]; simp
                  rw [el]
                  refine ih (eA D d k) (u + 1) _ _ (by omega) hE.2 (by simp; omega) (by omega) ⟨tFr_set f1 (.inl rfl), fun j hj => ?_⟩ (by rw [List.append_assoc]; exact e)
                  simp at hj
                  rcases Nat.lt_or_ge j P.length with y2 | y2
                  · have : (P ++ [(tcA D k (eA D d k), vlA D k (eA D d k), k)]).getD j tz = P.getD j tz := by simp [List.getD, List.getElem?_append_left y2]
                    rw [this, ah_i_sn (by omega), ah_i_sn (by omega), ah_i_sn (by omega), ah_i_sn (by omega)]
                    exact q3 j y2
                  · have : j = P.length := by omega
                    subst this
                    have : (P ++ [(tcA D k (eA D d k), vlA D k (eA D d k), k)]).getD P.length tz = (tcA D k (eA D d k), vlA D k (eA D d k), k) := by simp [List.getD]
                    rw [this, ah_i_ss, ah_i_sn (by omega), ah_i_ss]
                    exact ⟨ey, rfl⟩
                by_cases k1 : kd (D k) = 1
                · (first | refine ⟨fun _ => ?_, fun n_ => absurd (show nI (kd (D k)) = 1 by rw [k1]; rfl) n_⟩ | refine ⟨fun n_ => absurd (show nI (kd (D k)) = 1 by rw [k1]; rfl) n_, fun _ => ?_⟩ | refine ⟨fun y_ => absurd y_ (show nI (kd (D k)) = 1 by rw [k1]; rfl), fun _ => ?_⟩ | refine ⟨fun _ => ?_, fun y_ => absurd y_ (show nI (kd (D k)) = 1 by rw [k1]; rfl)⟩)
                  rw [nI_clamp (show k < 2 ^ 31 by omega), ah_n_si, ah_n_si, n17 hs, n21 hs, ah_i_sn (by omega), b2]
                  refine ⟨(vp_nI (by omega)).mpr (by omega), v21, ?_⟩
                  rintro h53 rfl
                  refine nx _ ?_
                  have e2 : tcA D k (eA D d k) = 100 + D k := by unfold tcA; rw [if_neg (by omega), if_neg (by omega)]
                  rw [e2, n_100, nI_add]
                  unfold tkO
                  have : D k ≠ 50 ∨ True := .inr trivial
                  rw [if_neg (by omega), if_pos (by omega)]
                · (first | refine ⟨fun _ => ?_, fun n_ => absurd (show ¬ nI (kd (D k)) = 1 by rw [n_1, nI_eq (by omega) (by omega)]; exact k1) n_⟩ | refine ⟨fun n_ => absurd (show ¬ nI (kd (D k)) = 1 by rw [n_1, nI_eq (by omega) (by omega)]; exact k1) n_, fun _ => ?_⟩ | refine ⟨fun y_ => absurd y_ (show ¬ nI (kd (D k)) = 1 by rw [n_1, nI_eq (by omega) (by omega)]; exact k1), fun _ => ?_⟩ | refine ⟨fun _ => ?_, fun y_ => absurd y_ (show ¬ nI (kd (D k)) = 1 by rw [n_1, nI_eq (by omega) (by omega)]; exact k1)⟩)
                  have ee : eA D d k = rn D d (kd (D k)) d (k + 1) := by unfold eA; rw [if_neg k1]
                  have al : ∀ j, k ≤ j → j < eA D d k → kd (D j) = kd (D k) := by
                    intro j h1 h2
                    by_cases y : j = k
                    · subst y; rfl
                    · exact rn_all D d _ d (k + 1) j (by omega) (by rw [← ee]; exact h2)
                  by_cases k2 : kd (D k) = 2
                  · (first | refine ⟨fun _ => ?_, fun n_ => absurd (show nI (kd (D k)) = 2 by rw [k2]; rfl) n_⟩ | refine ⟨fun n_ => absurd (show nI (kd (D k)) = 2 by rw [k2]; rfl) n_, fun _ => ?_⟩ | refine ⟨fun y_ => absurd y_ (show nI (kd (D k)) = 2 by rw [k2]; rfl), fun _ => ?_⟩ | refine ⟨fun _ => ?_, fun y_ => absurd y_ (show nI (kd (D k)) = 2 by rw [k2]; rfl)⟩)
                    refine c_numberIn f1.1 (D := D) (k17 f1.1) (by rw [n17 f1.1]; omega) hE.1 (by omega) (fun j h1 h2 => ?_) ⟨_, rfl, f1.1, k17 f1.1, ?_⟩
                    · have a1 := al j h1 h2
                      rw [k2] at a1
                      obtain ⟨t1, t2⟩ := tp f1 j (by omega)
                      unfold kd at a1
                      refine ⟨?_, ?_, t2⟩
                      · split at a1
                        · omega
                        · split at a1
                          · omega
                          · split at a1 <;> omega
                      · split at a1
                        · omega
                        · split at a1
                          · omega
                          · split at a1 <;> omega
                    · rw [n21 f1.1]
                      refine ⟨v21, ?_⟩
                      rintro h47 rfl
                      refine nx _ ?_
                      have e2 : tcA D k (eA D d k) = 50 := by unfold tcA; rw [if_neg (by omega), if_pos k2]
                      have e3 : vlA D k (eA D d k) = nvl D (eA D d k - k) k 0 := by unfold vlA; rw [if_pos k2]
                      rw [e2, e3]
                      rfl
                  · (first | refine ⟨fun _ => ?_, fun n_ => absurd (show ¬ nI (kd (D k)) = 2 by rw [n_2, nI_eq (by omega) (by omega)]; exact k2) n_⟩ | refine ⟨fun n_ => absurd (show ¬ nI (kd (D k)) = 2 by rw [n_2, nI_eq (by omega) (by omega)]; exact k2) n_, fun _ => ?_⟩ | refine ⟨fun y_ => absurd y_ (show ¬ nI (kd (D k)) = 2 by rw [n_2, nI_eq (by omega) (by omega)]; exact k2), fun _ => ?_⟩ | refine ⟨fun _ => ?_, fun y_ => absurd y_ (show ¬ nI (kd (D k)) = 2 by rw [n_2, nI_eq (by omega) (by omega)]; exact k2)⟩)
                    refine c_wordIn f1.1 (D := D) (k17 f1.1) (by rw [n17 f1.1]; omega) hE.1 (by omega) (fun j h1 h2 => tp f1 j (by omega)) ⟨_, rfl, f1.1, k17 f1.1, ?_⟩
                    rw [n21 f1.1]
                    refine ⟨v21, ?_⟩
                    rintro h38 rfl
                    refine nx _ ?_
                    have e2 : tcA D k (eA D d k) = wix mW (tb D k (eA D d k)) 1 := by unfold tcA; rw [if_pos (by omega)]
                    have e3 := wix_le mW (tb D k (eA D d k)) 1
                    have e4 : mW.length = 25 := rfl
                    rw [e2]
                    unfold tkO
                    rw [if_neg (by omega), if_neg (by omega)]
            · (first | refine ⟨fun _ => ?_, fun n_ => absurd (show nI (kd (D k)) ≤ 1 from nI_le (b := 1) (by omega) (by omega)) n_⟩ | refine ⟨fun n_ => absurd (show nI (kd (D k)) ≤ 1 from nI_le (b := 1) (by omega) (by omega)) n_, fun _ => ?_⟩ | refine ⟨fun y_ => absurd y_ (show nI (kd (D k)) ≤ 1 from nI_le (b := 1) (by omega) (by omega)), fun _ => ?_⟩ | refine ⟨fun _ => ?_, fun y_ => absurd y_ (show nI (kd (D k)) ≤ 1 from nI_le (b := 1) (by omega) (by omega))⟩)
              rw [nI_1 u]
              by_cases k0 : kd (D k) = 0
              · (first | refine ⟨fun _ => ?_, fun n_ => absurd (show nI (kd (D k)) = 0 by rw [k0]; rfl) n_⟩ | refine ⟨fun n_ => absurd (show nI (kd (D k)) = 0 by rw [k0]; rfl) n_, fun _ => ?_⟩ | refine ⟨fun y_ => absurd y_ (show nI (kd (D k)) = 0 by rw [k0]; rfl), fun _ => ?_⟩ | refine ⟨fun _ => ?_, fun y_ => absurd y_ (show nI (kd (D k)) = 0 by rw [k0]; rfl)⟩)
                rw [if_pos k0] at e
                rw [hj2 k0]
                exact ih (k + 1) (u + 1) P h (by omega) (by omega) (by omega) (by omega) q e
              · (first | refine ⟨fun _ => ?_, fun n_ => absurd (show ¬ nI (kd (D k)) = 0 from nI_ne0 (by omega) (by omega)) n_⟩ | refine ⟨fun n_ => absurd (show ¬ nI (kd (D k)) = 0 from nI_ne0 (by omega) (by omega)) n_, fun _ => ?_⟩ | refine ⟨fun y_ => absurd y_ (show ¬ nI (kd (D k)) = 0 from nI_ne0 (by omega) (by omega)), fun _ => ?_⟩ | refine ⟨fun _ => ?_, fun y_ => absurd y_ (show ¬ nI (kd (D k)) = 0 from nI_ne0 (by omega) (by omega))⟩)
                rw [if_neg k0] at e
                have hj3 := hj k0
                subst hj3
                obtain ⟨q1, q3⟩ := q
                obtain ⟨cl1, cl2⟩ := tcA_le c (fun j hj => (tp q1 j hj).1)
                rw [nI_clamp (show P.length < 2 ^ 31 by omega), n22 hs]
                refine ⟨(vp_nI (by omega)).mpr (by omega), ?_⟩
                rintro h27 rfl
                have f1 : tFr h0 (ah_si h 22 P.length (nI k)) := tFr_set q1 (.inr rfl)
                have v21 : vp_in (nI P.length) 401 := (vp_nI (by omega)).mpr (by omega)
                have nx : ∀ y : Int32, y = nI (tkO (tcA D k (eA D d k)) (vlA D k (eA D d k))) → Wp mX5_split Q 0 0 8 [some (.ref 20), some (.ref 17), some (.int (nI d)), some (.int (nI P.length + 1)), some (.int (nI (eA D d k))), some (.int (nI (u + 1))), none, none] [] (ah_si (ah_si h 22 P.length (nI k)) 21 P.length y) := by
                  intro y ey
                  have el : nI P.length + 1 = nI (P ++ [(tcA D k (eA D d k), vlA D k (eA D d k), k)]).length := by rw [nI_1]; simp
                  rw [el]
                  refine ih (eA D d k) (u + 1) _ _ (by omega) hE.2 (by simp; omega) (by omega) ⟨tFr_set f1 (.inl rfl), fun j hj => ?_⟩ (by rw [List.append_assoc]; exact e)
                  simp at hj
                  rcases Nat.lt_or_ge j P.length with y2 | y2
                  · have : (P ++ [(tcA D k (eA D d k), vlA D k (eA D d k), k)]).getD j tz = P.getD j tz := by simp [List.getD, List.getElem?_append_left y2]
                    rw [this, ah_i_sn (by omega), ah_i_sn (by omega), ah_i_sn (by omega), ah_i_sn (by omega)]
                    exact q3 j y2
                  · have : j = P.length := by omega
                    subst this
                    have : (P ++ [(tcA D k (eA D d k), vlA D k (eA D d k), k)]).getD P.length tz = (tcA D k (eA D d k), vlA D k (eA D d k), k) := by simp [List.getD]
                    rw [this, ah_i_ss, ah_i_sn (by omega), ah_i_ss]
                    exact ⟨ey, rfl⟩
                by_cases k1 : kd (D k) = 1
                · (first | refine ⟨fun _ => ?_, fun n_ => absurd (show nI (kd (D k)) = 1 by rw [k1]; rfl) n_⟩ | refine ⟨fun n_ => absurd (show nI (kd (D k)) = 1 by rw [k1]; rfl) n_, fun _ => ?_⟩ | refine ⟨fun y_ => absurd y_ (show nI (kd (D k)) = 1 by rw [k1]; rfl), fun _ => ?_⟩ | refine ⟨fun _ => ?_, fun y_ => absurd y_ (show nI (kd (D k)) = 1 by rw [k1]; rfl)⟩)
                  rw [nI_clamp (show k < 2 ^ 31 by omega), ah_n_si, ah_n_si, n17 hs, n21 hs, ah_i_sn (by omega), b2]
                  refine ⟨(vp_nI (by omega)).mpr (by omega), v21, ?_⟩
                  rintro h53 rfl
                  refine nx _ ?_
                  have e2 : tcA D k (eA D d k) = 100 + D k := by unfold tcA; rw [if_neg (by omega), if_neg (by omega)]
                  rw [e2, n_100, nI_add]
                  unfold tkO
                  have : D k ≠ 50 ∨ True := .inr trivial
                  rw [if_neg (by omega), if_pos (by omega)]
                · (first | refine ⟨fun _ => ?_, fun n_ => absurd (show ¬ nI (kd (D k)) = 1 by rw [n_1, nI_eq (by omega) (by omega)]; exact k1) n_⟩ | refine ⟨fun n_ => absurd (show ¬ nI (kd (D k)) = 1 by rw [n_1, nI_eq (by omega) (by omega)]; exact k1) n_, fun _ => ?_⟩ | refine ⟨fun y_ => absurd y_ (show ¬ nI (kd (D k)) = 1 by rw [n_1, nI_eq (by omega) (by omega)]; exact k1), fun _ => ?_⟩ | refine ⟨fun _ => ?_, fun y_ => absurd y_ (show ¬ nI (kd (D k)) = 1 by rw [n_1, nI_eq (by omega) (by omega)]; exact k1)⟩)
                  have ee : eA D d k = rn D d (kd (D k)) d (k + 1) := by unfold eA; rw [if_neg k1]
                  have al : ∀ j, k ≤ j → j < eA D d k → kd (D j) = kd (D k) := by
                    intro j h1 h2
                    by_cases y : j = k
                    · subst y; rfl
                    · exact rn_all D d _ d (k + 1) j (by omega) (by rw [← ee]; exact h2)
                  by_cases k2 : kd (D k) = 2
                  · (first | refine ⟨fun _ => ?_, fun n_ => absurd (show nI (kd (D k)) = 2 by rw [k2]; rfl) n_⟩ | refine ⟨fun n_ => absurd (show nI (kd (D k)) = 2 by rw [k2]; rfl) n_, fun _ => ?_⟩ | refine ⟨fun y_ => absurd y_ (show nI (kd (D k)) = 2 by rw [k2]; rfl), fun _ => ?_⟩ | refine ⟨fun _ => ?_, fun y_ => absurd y_ (show nI (kd (D k)) = 2 by rw [k2]; rfl)⟩)
                    refine c_numberIn f1.1 (D := D) (k17 f1.1) (by rw [n17 f1.1]; omega) hE.1 (by omega) (fun j h1 h2 => ?_) ⟨_, rfl, f1.1, k17 f1.1, ?_⟩
                    · have a1 := al j h1 h2
                      rw [k2] at a1
                      obtain ⟨t1, t2⟩ := tp f1 j (by omega)
                      unfold kd at a1
                      refine ⟨?_, ?_, t2⟩
                      · split at a1
                        · omega
                        · split at a1
                          · omega
                          · split at a1 <;> omega
                      · split at a1
                        · omega
                        · split at a1
                          · omega
                          · split at a1 <;> omega
                    · rw [n21 f1.1]
                      refine ⟨v21, ?_⟩
                      rintro h47 rfl
                      refine nx _ ?_
                      have e2 : tcA D k (eA D d k) = 50 := by unfold tcA; rw [if_neg (by omega), if_pos k2]
                      have e3 : vlA D k (eA D d k) = nvl D (eA D d k - k) k 0 := by unfold vlA; rw [if_pos k2]
                      rw [e2, e3]
                      rfl
                  · (first | refine ⟨fun _ => ?_, fun n_ => absurd (show ¬ nI (kd (D k)) = 2 by rw [n_2, nI_eq (by omega) (by omega)]; exact k2) n_⟩ | refine ⟨fun n_ => absurd (show ¬ nI (kd (D k)) = 2 by rw [n_2, nI_eq (by omega) (by omega)]; exact k2) n_, fun _ => ?_⟩ | refine ⟨fun y_ => absurd y_ (show ¬ nI (kd (D k)) = 2 by rw [n_2, nI_eq (by omega) (by omega)]; exact k2), fun _ => ?_⟩ | refine ⟨fun _ => ?_, fun y_ => absurd y_ (show ¬ nI (kd (D k)) = 2 by rw [n_2, nI_eq (by omega) (by omega)]; exact k2)⟩)
                    refine c_wordIn f1.1 (D := D) (k17 f1.1) (by rw [n17 f1.1]; omega) hE.1 (by omega) (fun j h1 h2 => tp f1 j (by omega)) ⟨_, rfl, f1.1, k17 f1.1, ?_⟩
                    rw [n21 f1.1]
                    refine ⟨v21, ?_⟩
                    rintro h38 rfl
                    refine nx _ ?_
                    have e2 : tcA D k (eA D d k) = wix mW (tb D k (eA D d k)) 1 := by unfold tcA; rw [if_pos (by omega)]
                    have e3 := wix_le mW (tb D k (eA D d k)) 1
                    have e4 : mW.length = 25 := rfl
                    rw [e2]
                    unfold tkO
                    rw [if_neg (by omega), if_neg (by omega)]
          | succ g ihg =>
            intro j hdj hkj hjd hr hr2
            refine T_X5_split_38 hs 17 _ _ _ _ _ _ (k17 hs) ?_
            by_cases y : 2 ≤ kd (D k)
            · (first | refine ⟨fun _ => ?_, fun n_ => absurd (show ¬ nI (kd (D k)) ≤ 1 from nI_ge (a := 1) (by omega) (by omega)) n_⟩ | refine ⟨fun n_ => absurd (show ¬ nI (kd (D k)) ≤ 1 from nI_ge (a := 1) (by omega) (by omega)) n_, fun _ => ?_⟩ | refine ⟨fun y_ => absurd y_ (show ¬ nI (kd (D k)) ≤ 1 from nI_ge (a := 1) (by omega) (by omega)), fun _ => ?_⟩ | refine ⟨fun _ => ?_, fun y_ => absurd y_ (show ¬ nI (kd (D k)) ≤ 1 from nI_ge (a := 1) (by omega) (by omega))⟩)
              have hj2 : kd (D k) = 0 → j = k + 1 := fun y => by omega
              have hr3 := hr y
              unfold rn at hr3
              rcases Nat.lt_or_ge j d with w | w
              · (first | refine ⟨fun _ => ?_, fun n_ => absurd (show ¬ nI d ≤ nI j from nI_ge w (by omega)) n_⟩ | refine ⟨fun n_ => absurd (show ¬ nI d ≤ nI j from nI_ge w (by omega)) n_, fun _ => ?_⟩ | refine ⟨fun y_ => absurd y_ (show ¬ nI d ≤ nI j from nI_ge w (by omega)), fun _ => ?_⟩ | refine ⟨fun _ => ?_, fun y_ => absurd y_ (show ¬ nI d ≤ nI j from nI_ge w (by omega))⟩)
                obtain ⟨t1, t2⟩ := tp q.1 j w
                rw [nI_clamp (show j < 2 ^ 31 by omega), t2, kd_c _ t1]
                refine ⟨by rw [n17 hs]; exact (vp_nI (by omega)).mpr (by omega), ?_⟩
                have kl2 := kd_le (D j)
                by_cases v : kd (D j) = kd (D k)
                · (first | refine ⟨fun _ => ?_, fun n_ => absurd (show nI (kd (D j)) = nI (kd (D k)) by rw [v]) n_⟩ | refine ⟨fun n_ => absurd (show nI (kd (D j)) = nI (kd (D k)) by rw [v]) n_, fun _ => ?_⟩ | refine ⟨fun y_ => absurd y_ (show nI (kd (D j)) = nI (kd (D k)) by rw [v]), fun _ => ?_⟩ | refine ⟨fun _ => ?_, fun y_ => absurd y_ (show nI (kd (D j)) = nI (kd (D k)) by rw [v])⟩)
                  rw [if_pos ⟨w, v⟩] at hr3
                  rw [nI_1]
                  exact ihg (j + 1) (by omega) (by omega) w (fun _ => hr3) (fun z => absurd y z)
                · (first | refine ⟨fun _ => ?_, fun n_ => absurd (show ¬ nI (kd (D j)) = nI (kd (D k)) by rw [nI_eq (by omega) (by omega)]; exact v) n_⟩ | refine ⟨fun n_ => absurd (show ¬ nI (kd (D j)) = nI (kd (D k)) by rw [nI_eq (by omega) (by omega)]; exact v) n_, fun _ => ?_⟩ | refine ⟨fun y_ => absurd y_ (show ¬ nI (kd (D j)) = nI (kd (D k)) by rw [nI_eq (by omega) (by omega)]; exact v), fun _ => ?_⟩ | refine ⟨fun _ => ?_, fun y_ => absurd y_ (show ¬ nI (kd (D j)) = nI (kd (D k)) by rw [nI_eq (by omega) (by omega)]; exact v)⟩)
                  rw [if_neg (fun z => v z.2)] at hr3
                  have hj : kd (D k) ≠ 0 → j = eA D d k := fun _ => hr3
                  rw [nI_1 u]
                  by_cases k0 : kd (D k) = 0
                  · (first | refine ⟨fun _ => ?_, fun n_ => absurd (show nI (kd (D k)) = 0 by rw [k0]; rfl) n_⟩ | refine ⟨fun n_ => absurd (show nI (kd (D k)) = 0 by rw [k0]; rfl) n_, fun _ => ?_⟩ | refine ⟨fun y_ => absurd y_ (show nI (kd (D k)) = 0 by rw [k0]; rfl), fun _ => ?_⟩ | refine ⟨fun _ => ?_, fun y_ => absurd y_ (show nI (kd (D k)) = 0 by rw [k0]; rfl)⟩)
                    rw [if_pos k0] at e
                    rw [hj2 k0]
                    exact ih (k + 1) (u + 1) P h (by omega) (by omega) (by omega) (by omega) q e
                  · (first | refine ⟨fun _ => ?_, fun n_ => absurd (show ¬ nI (kd (D k)) = 0 from nI_ne0 (by omega) (by omega)) n_⟩ | refine ⟨fun n_ => absurd (show ¬ nI (kd (D k)) = 0 from nI_ne0 (by omega) (by omega)) n_, fun _ => ?_⟩ | refine ⟨fun y_ => absurd y_ (show ¬ nI (kd (D k)) = 0 from nI_ne0 (by omega) (by omega)), fun _ => ?_⟩ | refine ⟨fun _ => ?_, fun y_ => absurd y_ (show ¬ nI (kd (D k)) = 0 from nI_ne0 (by omega) (by omega))⟩)
                    rw [if_neg k0] at e
                    have hj3 := hj k0
                    subst hj3
                    obtain ⟨q1, q3⟩ := q
                    obtain ⟨cl1, cl2⟩ := tcA_le c (fun j hj => (tp q1 j hj).1)
                    rw [nI_clamp (show P.length < 2 ^ 31 by omega), n22 hs]
                    refine ⟨(vp_nI (by omega)).mpr (by omega), ?_⟩
                    rintro h27 rfl
                    have f1 : tFr h0 (ah_si h 22 P.length (nI k)) := tFr_set q1 (.inr rfl)
                    have v21 : vp_in (nI P.length) 401 := (vp_nI (by omega)).mpr (by omega)
                    have nx : ∀ y : Int32, y = nI (tkO (tcA D k (eA D d k)) (vlA D k (eA D d k))) → Wp mX5_split Q 0 0 8 [some (.ref 20), some (.ref 17), some (.int (nI d)), some (.int (nI P.length + 1)), some (.int (nI (eA D d k))), some (.int (nI (u + 1))), none, none] [] (ah_si (ah_si h 22 P.length (nI k)) 21 P.length y) := by
                      intro y ey
                      have el : nI P.length + 1 = nI (P ++ [(tcA D k (eA D d k), vlA D k (eA D d k), k)]).length := by rw [nI_1]; simp
                      rw [el]
                      refine ih (eA D d k) (u + 1) _ _ (by omega) hE.2 (by simp; omega) (by omega) ⟨tFr_set f1 (.inl rfl), fun j hj => ?_⟩ (by rw [List.append_assoc]; exact e)
                      simp at hj
                      rcases Nat.lt_or_ge j P.length with y2 | y2
                      · have : (P ++ [(tcA D k (eA D d k), vlA D k (eA D d k), k)]).getD j tz = P.getD j tz := by simp [List.getD, List.getElem?_append_left y2]
                        rw [this, ah_i_sn (by omega), ah_i_sn (by omega), ah_i_sn (by omega), ah_i_sn (by omega)]
                        exact q3 j y2
                      · have : j = P.length := by omega
                        subst this
                        have : (P ++ [(tcA D k (eA D d k), vlA D k (eA D d k), k)]).getD P.length tz = (tcA D k (eA D d k), vlA D k (eA D d k), k) := by simp [List.getD]
                        rw [this, ah_i_ss, ah_i_sn (by omega), ah_i_ss]
                        exact ⟨ey, rfl⟩
                    by_cases k1 : kd (D k) = 1
                    · (first | refine ⟨fun _ => ?_, fun n_ => absurd (show nI (kd (D k)) = 1 by rw [k1]; rfl) n_⟩ | refine ⟨fun n_ => absurd (show nI (kd (D k)) = 1 by rw [k1]; rfl) n_, fun _ => ?_⟩ | refine ⟨fun y_ => absurd y_ (show nI (kd (D k)) = 1 by rw [k1]; rfl), fun _ => ?_⟩ | refine ⟨fun _ => ?_, fun y_ => absurd y_ (show nI (kd (D k)) = 1 by rw [k1]; rfl)⟩)
                      rw [nI_clamp (show k < 2 ^ 31 by omega), ah_n_si, ah_n_si, n17 hs, n21 hs, ah_i_sn (by omega), b2]
                      refine ⟨(vp_nI (by omega)).mpr (by omega), v21, ?_⟩
                      rintro h53 rfl
                      refine nx _ ?_
                      have e2 : tcA D k (eA D d k) = 100 + D k := by unfold tcA; rw [if_neg (by omega), if_neg (by omega)]
                      rw [e2, n_100, nI_add]
                      unfold tkO
                      have : D k ≠ 50 ∨ True := .inr trivial
                      rw [if_neg (by omega), if_pos (by omega)]
                    · (first | refine ⟨fun _ => ?_, fun n_ => absurd (show ¬ nI (kd (D k)) = 1 by rw [n_1, nI_eq (by omega) (by omega)]; exact k1) n_⟩ | refine ⟨fun n_ => absurd (show ¬ nI (kd (D k)) = 1 by rw [n_1, nI_eq (by omega) (by omega)]; exact k1) n_, fun _ => ?_⟩ | refine ⟨fun y_ => absurd y_ (show ¬ nI (kd (D k)) = 1 by rw [n_1, nI_eq (by omega) (by omega)]; exact k1), fun _ => ?_⟩ | refine ⟨fun _ => ?_, fun y_ => absurd y_ (show ¬ nI (kd (D k)) = 1 by rw [n_1, nI_eq (by omega) (by omega)]; exact k1)⟩)
                      have ee : eA D d k = rn D d (kd (D k)) d (k + 1) := by unfold eA; rw [if_neg k1]
                      have al : ∀ j, k ≤ j → j < eA D d k → kd (D j) = kd (D k) := by
                        intro j h1 h2
                        by_cases y : j = k
                        · subst y; rfl
                        · exact rn_all D d _ d (k + 1) j (by omega) (by rw [← ee]; exact h2)
                      by_cases k2 : kd (D k) = 2
                      · (first | refine ⟨fun _ => ?_, fun n_ => absurd (show nI (kd (D k)) = 2 by rw [k2]; rfl) n_⟩ | refine ⟨fun n_ => absurd (show nI (kd (D k)) = 2 by rw [k2]; rfl) n_, fun _ => ?_⟩ | refine ⟨fun y_ => absurd y_ (show nI (kd (D k)) = 2 by rw [k2]; rfl), fun _ => ?_⟩ | refine ⟨fun _ => ?_, fun y_ => absurd y_ (show nI (kd (D k)) = 2 by rw [k2]; rfl)⟩)
                        refine c_numberIn f1.1 (D := D) (k17 f1.1) (by rw [n17 f1.1]; omega) hE.1 (by omega) (fun j h1 h2 => ?_) ⟨_, rfl, f1.1, k17 f1.1, ?_⟩
                        · have a1 := al j h1 h2
                          rw [k2] at a1
                          obtain ⟨t1, t2⟩ := tp f1 j (by omega)
                          unfold kd at a1
                          refine ⟨?_, ?_, t2⟩
                          · split at a1
                            · omega
                            · split at a1
                              · omega
                              · split at a1 <;> omega
                          · split at a1
                            · omega
                            · split at a1
                              · omega
                              · split at a1 <;> omega
                        · rw [n21 f1.1]
                          refine ⟨v21, ?_⟩
                          rintro h47 rfl
                          refine nx _ ?_
                          have e2 : tcA D k (eA D d k) = 50 := by unfold tcA; rw [if_neg (by omega), if_pos k2]
                          have e3 : vlA D k (eA D d k) = nvl D (eA D d k - k) k 0 := by unfold vlA; rw [if_pos k2]
                          rw [e2, e3]
                          rfl
                      · (first | refine ⟨fun _ => ?_, fun n_ => absurd (show ¬ nI (kd (D k)) = 2 by rw [n_2, nI_eq (by omega) (by omega)]; exact k2) n_⟩ | refine ⟨fun n_ => absurd (show ¬ nI (kd (D k)) = 2 by rw [n_2, nI_eq (by omega) (by omega)]; exact k2) n_, fun _ => ?_⟩ | refine ⟨fun y_ => absurd y_ (show ¬ nI (kd (D k)) = 2 by rw [n_2, nI_eq (by omega) (by omega)]; exact k2), fun _ => ?_⟩ | refine ⟨fun _ => ?_, fun y_ => absurd y_ (show ¬ nI (kd (D k)) = 2 by rw [n_2, nI_eq (by omega) (by omega)]; exact k2)⟩)
                        refine c_wordIn f1.1 (D := D) (k17 f1.1) (by rw [n17 f1.1]; omega) hE.1 (by omega) (fun j h1 h2 => tp f1 j (by omega)) ⟨_, rfl, f1.1, k17 f1.1, ?_⟩
                        rw [n21 f1.1]
                        refine ⟨v21, ?_⟩
                        rintro h38 rfl
                        refine nx _ ?_
                        have e2 : tcA D k (eA D d k) = wix mW (tb D k (eA D d k)) 1 := by unfold tcA; rw [if_pos (by omega)]
                        have e3 := wix_le mW (tb D k (eA D d k)) 1
                        have e4 : mW.length = 25 := rfl
                        rw [e2]
                        unfold tkO
                        rw [if_neg (by omega), if_neg (by omega)]
              · (first | refine ⟨fun _ => ?_, fun n_ => absurd (show nI d ≤ nI j from nI_le w (by omega)) n_⟩ | refine ⟨fun n_ => absurd (show nI d ≤ nI j from nI_le w (by omega)) n_, fun _ => ?_⟩ | refine ⟨fun y_ => absurd y_ (show nI d ≤ nI j from nI_le w (by omega)), fun _ => ?_⟩ | refine ⟨fun _ => ?_, fun y_ => absurd y_ (show nI d ≤ nI j from nI_le w (by omega))⟩)
                rw [if_neg (by omega)] at hr3
                have hj : kd (D k) ≠ 0 → j = eA D d k := fun _ => hr3
                rw [nI_1 u]
                by_cases k0 : kd (D k) = 0
                · (first | refine ⟨fun _ => ?_, fun n_ => absurd (show nI (kd (D k)) = 0 by rw [k0]; rfl) n_⟩ | refine ⟨fun n_ => absurd (show nI (kd (D k)) = 0 by rw [k0]; rfl) n_, fun _ => ?_⟩ | refine ⟨fun y_ => absurd y_ (show nI (kd (D k)) = 0 by rw [k0]; rfl), fun _ => ?_⟩ | refine ⟨fun _ => ?_, fun y_ => absurd y_ (show nI (kd (D k)) = 0 by rw [k0]; rfl)⟩)
                  rw [if_pos k0] at e
                  rw [hj2 k0]
                  exact ih (k + 1) (u + 1) P h (by omega) (by omega) (by omega) (by omega) q e
                · (first | refine ⟨fun _ => ?_, fun n_ => absurd (show ¬ nI (kd (D k)) = 0 from nI_ne0 (by omega) (by omega)) n_⟩ | refine ⟨fun n_ => absurd (show ¬ nI (kd (D k)) = 0 from nI_ne0 (by omega) (by omega)) n_, fun _ => ?_⟩ | refine ⟨fun y_ => absurd y_ (show ¬ nI (kd (D k)) = 0 from nI_ne0 (by omega) (by omega)), fun _ => ?_⟩ | refine ⟨fun _ => ?_, fun y_ => absurd y_ (show ¬ nI (kd (D k)) = 0 from nI_ne0 (by omega) (by omega))⟩)
                  rw [if_neg k0] at e
                  have hj3 := hj k0
                  subst hj3
                  obtain ⟨q1, q3⟩ := q
                  obtain ⟨cl1, cl2⟩ := tcA_le c (fun j hj => (tp q1 j hj).1)
                  rw [nI_clamp (show P.length < 2 ^ 31 by omega), n22 hs]
                  refine ⟨(vp_nI (by omega)).mpr (by omega), ?_⟩
                  rintro h27 rfl
                  have f1 : tFr h0 (ah_si h 22 P.length (nI k)) := tFr_set q1 (.inr rfl)
                  have v21 : vp_in (nI P.length) 401 := (vp_nI (by omega)).mpr (by omega)
                  have nx : ∀ y : Int32, y = nI (tkO (tcA D k (eA D d k)) (vlA D k (eA D d k))) → Wp mX5_split Q 0 0 8 [some (.ref 20), some (.ref 17), some (.int (nI d)), some (.int (nI P.length + 1)), some (.int (nI (eA D d k))), some (.int (nI (u + 1))), none, none] [] (ah_si (ah_si h 22 P.length (nI k)) 21 P.length y) := by
                    intro y ey
                    have el : nI P.length + 1 = nI (P ++ [(tcA D k (eA D d k), vlA D k (eA D d k), k)]).length := by rw [nI_1]; simp
                    rw [el]
                    refine ih (eA D d k) (u + 1) _ _ (by omega) hE.2 (by simp; omega) (by omega) ⟨tFr_set f1 (.inl rfl), fun j hj => ?_⟩ (by rw [List.append_assoc]; exact e)
                    simp at hj
                    rcases Nat.lt_or_ge j P.length with y2 | y2
                    · have : (P ++ [(tcA D k (eA D d k), vlA D k (eA D d k), k)]).getD j tz = P.getD j tz := by simp [List.getD, List.getElem?_append_left y2]
                      rw [this, ah_i_sn (by omega), ah_i_sn (by omega), ah_i_sn (by omega), ah_i_sn (by omega)]
                      exact q3 j y2
                    · have : j = P.length := by omega
                      subst this
                      have : (P ++ [(tcA D k (eA D d k), vlA D k (eA D d k), k)]).getD P.length tz = (tcA D k (eA D d k), vlA D k (eA D d k), k) := by simp [List.getD]
                      rw [this, ah_i_ss, ah_i_sn (by omega), ah_i_ss]
                      exact ⟨ey, rfl⟩
                  by_cases k1 : kd (D k) = 1
                  · (first | refine ⟨fun _ => ?_, fun n_ => absurd (show nI (kd (D k)) = 1 by rw [k1]; rfl) n_⟩ | refine ⟨fun n_ => absurd (show nI (kd (D k)) = 1 by rw [k1]; rfl) n_, fun _ => ?_⟩ | refine ⟨fun y_ => absurd y_ (show nI (kd (D k)) = 1 by rw [k1]; rfl), fun _ => ?_⟩ | refine ⟨fun _ => ?_, fun y_ => absurd y_ (show nI (kd (D k)) = 1 by rw [k1]; rfl)⟩)
                    rw [nI_clamp (show k < 2 ^ 31 by omega), ah_n_si, ah_n_si, n17 hs, n21 hs, ah_i_sn (by omega), b2]
                    refine ⟨(vp_nI (by omega)).mpr (by omega), v21, ?_⟩
                    rintro h53 rfl
                    refine nx _ ?_
                    have e2 : tcA D k (eA D d k) = 100 + D k := by unfold tcA; rw [if_neg (by omega), if_neg (by omega)]
                    rw [e2, n_100, nI_add]
                    unfold tkO
                    have : D k ≠ 50 ∨ True := .inr trivial
                    rw [if_neg (by omega), if_pos (by omega)]
                  · (first | refine ⟨fun _ => ?_, fun n_ => absurd (show ¬ nI (kd (D k)) = 1 by rw [n_1, nI_eq (by omega) (by omega)]; exact k1) n_⟩ | refine ⟨fun n_ => absurd (show ¬ nI (kd (D k)) = 1 by rw [n_1, nI_eq (by omega) (by omega)]; exact k1) n_, fun _ => ?_⟩ | refine ⟨fun y_ => absurd y_ (show ¬ nI (kd (D k)) = 1 by rw [n_1, nI_eq (by omega) (by omega)]; exact k1), fun _ => ?_⟩ | refine ⟨fun _ => ?_, fun y_ => absurd y_ (show ¬ nI (kd (D k)) = 1 by rw [n_1, nI_eq (by omega) (by omega)]; exact k1)⟩)
                    have ee : eA D d k = rn D d (kd (D k)) d (k + 1) := by unfold eA; rw [if_neg k1]
                    have al : ∀ j, k ≤ j → j < eA D d k → kd (D j) = kd (D k) := by
                      intro j h1 h2
                      by_cases y : j = k
                      · subst y; rfl
                      · exact rn_all D d _ d (k + 1) j (by omega) (by rw [← ee]; exact h2)
                    by_cases k2 : kd (D k) = 2
                    · (first | refine ⟨fun _ => ?_, fun n_ => absurd (show nI (kd (D k)) = 2 by rw [k2]; rfl) n_⟩ | refine ⟨fun n_ => absurd (show nI (kd (D k)) = 2 by rw [k2]; rfl) n_, fun _ => ?_⟩ | refine ⟨fun y_ => absurd y_ (show nI (kd (D k)) = 2 by rw [k2]; rfl), fun _ => ?_⟩ | refine ⟨fun _ => ?_, fun y_ => absurd y_ (show nI (kd (D k)) = 2 by rw [k2]; rfl)⟩)
                      refine c_numberIn f1.1 (D := D) (k17 f1.1) (by rw [n17 f1.1]; omega) hE.1 (by omega) (fun j h1 h2 => ?_) ⟨_, rfl, f1.1, k17 f1.1, ?_⟩
                      · have a1 := al j h1 h2
                        rw [k2] at a1
                        obtain ⟨t1, t2⟩ := tp f1 j (by omega)
                        unfold kd at a1
                        refine ⟨?_, ?_, t2⟩
                        · split at a1
                          · omega
                          · split at a1
                            · omega
                            · split at a1 <;> omega
                        · split at a1
                          · omega
                          · split at a1
                            · omega
                            · split at a1 <;> omega
                      · rw [n21 f1.1]
                        refine ⟨v21, ?_⟩
                        rintro h47 rfl
                        refine nx _ ?_
                        have e2 : tcA D k (eA D d k) = 50 := by unfold tcA; rw [if_neg (by omega), if_pos k2]
                        have e3 : vlA D k (eA D d k) = nvl D (eA D d k - k) k 0 := by unfold vlA; rw [if_pos k2]
                        rw [e2, e3]
                        rfl
                    · (first | refine ⟨fun _ => ?_, fun n_ => absurd (show ¬ nI (kd (D k)) = 2 by rw [n_2, nI_eq (by omega) (by omega)]; exact k2) n_⟩ | refine ⟨fun n_ => absurd (show ¬ nI (kd (D k)) = 2 by rw [n_2, nI_eq (by omega) (by omega)]; exact k2) n_, fun _ => ?_⟩ | refine ⟨fun y_ => absurd y_ (show ¬ nI (kd (D k)) = 2 by rw [n_2, nI_eq (by omega) (by omega)]; exact k2), fun _ => ?_⟩ | refine ⟨fun _ => ?_, fun y_ => absurd y_ (show ¬ nI (kd (D k)) = 2 by rw [n_2, nI_eq (by omega) (by omega)]; exact k2)⟩)
                      refine c_wordIn f1.1 (D := D) (k17 f1.1) (by rw [n17 f1.1]; omega) hE.1 (by omega) (fun j h1 h2 => tp f1 j (by omega)) ⟨_, rfl, f1.1, k17 f1.1, ?_⟩
                      rw [n21 f1.1]
                      refine ⟨v21, ?_⟩
                      rintro h38 rfl
                      refine nx _ ?_
                      have e2 : tcA D k (eA D d k) = wix mW (tb D k (eA D d k)) 1 := by unfold tcA; rw [if_pos (by omega)]
                      have e3 := wix_le mW (tb D k (eA D d k)) 1
                      have e4 : mW.length = 25 := rfl
                      rw [e2]
                      unfold tkO
                      rw [if_neg (by omega), if_neg (by omega)]
            · (first | refine ⟨fun _ => ?_, fun n_ => absurd (show nI (kd (D k)) ≤ 1 from nI_le (b := 1) (by omega) (by omega)) n_⟩ | refine ⟨fun n_ => absurd (show nI (kd (D k)) ≤ 1 from nI_le (b := 1) (by omega) (by omega)) n_, fun _ => ?_⟩ | refine ⟨fun y_ => absurd y_ (show nI (kd (D k)) ≤ 1 from nI_le (b := 1) (by omega) (by omega)), fun _ => ?_⟩ | refine ⟨fun _ => ?_, fun y_ => absurd y_ (show nI (kd (D k)) ≤ 1 from nI_le (b := 1) (by omega) (by omega))⟩)
              have hj : kd (D k) ≠ 0 → j = eA D d k := by
                intro y3
                unfold eA; rw [if_pos (by omega)]; exact hr2 y
              have hj2 : kd (D k) = 0 → j = k + 1 := fun _ => hr2 y
              rw [nI_1 u]
              by_cases k0 : kd (D k) = 0
              · (first | refine ⟨fun _ => ?_, fun n_ => absurd (show nI (kd (D k)) = 0 by rw [k0]; rfl) n_⟩ | refine ⟨fun n_ => absurd (show nI (kd (D k)) = 0 by rw [k0]; rfl) n_, fun _ => ?_⟩ | refine ⟨fun y_ => absurd y_ (show nI (kd (D k)) = 0 by rw [k0]; rfl), fun _ => ?_⟩ | refine ⟨fun _ => ?_, fun y_ => absurd y_ (show nI (kd (D k)) = 0 by rw [k0]; rfl)⟩)
                rw [if_pos k0] at e
                rw [hj2 k0]
                exact ih (k + 1) (u + 1) P h (by omega) (by omega) (by omega) (by omega) q e
              · (first | refine ⟨fun _ => ?_, fun n_ => absurd (show ¬ nI (kd (D k)) = 0 from nI_ne0 (by omega) (by omega)) n_⟩ | refine ⟨fun n_ => absurd (show ¬ nI (kd (D k)) = 0 from nI_ne0 (by omega) (by omega)) n_, fun _ => ?_⟩ | refine ⟨fun y_ => absurd y_ (show ¬ nI (kd (D k)) = 0 from nI_ne0 (by omega) (by omega)), fun _ => ?_⟩ | refine ⟨fun _ => ?_, fun y_ => absurd y_ (show ¬ nI (kd (D k)) = 0 from nI_ne0 (by omega) (by omega))⟩)
                rw [if_neg k0] at e
                have hj3 := hj k0
                subst hj3
                obtain ⟨q1, q3⟩ := q
                obtain ⟨cl1, cl2⟩ := tcA_le c (fun j hj => (tp q1 j hj).1)
                rw [nI_clamp (show P.length < 2 ^ 31 by omega), n22 hs]
                refine ⟨(vp_nI (by omega)).mpr (by omega), ?_⟩
                rintro h27 rfl
                have f1 : tFr h0 (ah_si h 22 P.length (nI k)) := tFr_set q1 (.inr rfl)
                have v21 : vp_in (nI P.length) 401 := (vp_nI (by omega)).mpr (by omega)
                have nx : ∀ y : Int32, y = nI (tkO (tcA D k (eA D d k)) (vlA D k (eA D d k))) → Wp mX5_split Q 0 0 8 [some (.ref 20), some (.ref 17), some (.int (nI d)), some (.int (nI P.length + 1)), some (.int (nI (eA D d k))), some (.int (nI (u + 1))), none, none] [] (ah_si (ah_si h 22 P.length (nI k)) 21 P.length y) := by
                  intro y ey
                  have el : nI P.length + 1 = nI (P ++ [(tcA D k (eA D d k), vlA D k (eA D d k), k)]).length := by rw [nI_1]; simp
                  rw [el]
                  refine ih (eA D d k) (u + 1) _ _ (by omega) hE.2 (by simp; omega) (by omega) ⟨tFr_set f1 (.inl rfl), fun j hj => ?_⟩ (by rw [List.append_assoc]; exact e)
                  simp at hj
                  rcases Nat.lt_or_ge j P.length with y2 | y2
                  · have : (P ++ [(tcA D k (eA D d k), vlA D k (eA D d k), k)]).getD j tz = P.getD j tz := by simp [List.getD, List.getElem?_append_left y2]
                    rw [this, ah_i_sn (by omega), ah_i_sn (by omega), ah_i_sn (by omega), ah_i_sn (by omega)]
                    exact q3 j y2
                  · have : j = P.length := by omega
                    subst this
                    have : (P ++ [(tcA D k (eA D d k), vlA D k (eA D d k), k)]).getD P.length tz = (tcA D k (eA D d k), vlA D k (eA D d k), k) := by simp [List.getD]
                    rw [this, ah_i_ss, ah_i_sn (by omega), ah_i_ss]
                    exact ⟨ey, rfl⟩
                by_cases k1 : kd (D k) = 1
                · (first | refine ⟨fun _ => ?_, fun n_ => absurd (show nI (kd (D k)) = 1 by rw [k1]; rfl) n_⟩ | refine ⟨fun n_ => absurd (show nI (kd (D k)) = 1 by rw [k1]; rfl) n_, fun _ => ?_⟩ | refine ⟨fun y_ => absurd y_ (show nI (kd (D k)) = 1 by rw [k1]; rfl), fun _ => ?_⟩ | refine ⟨fun _ => ?_, fun y_ => absurd y_ (show nI (kd (D k)) = 1 by rw [k1]; rfl)⟩)
                  rw [nI_clamp (show k < 2 ^ 31 by omega), ah_n_si, ah_n_si, n17 hs, n21 hs, ah_i_sn (by omega), b2]
                  refine ⟨(vp_nI (by omega)).mpr (by omega), v21, ?_⟩
                  rintro h53 rfl
                  refine nx _ ?_
                  have e2 : tcA D k (eA D d k) = 100 + D k := by unfold tcA; rw [if_neg (by omega), if_neg (by omega)]
                  rw [e2, n_100, nI_add]
                  unfold tkO
                  have : D k ≠ 50 ∨ True := .inr trivial
                  rw [if_neg (by omega), if_pos (by omega)]
                · (first | refine ⟨fun _ => ?_, fun n_ => absurd (show ¬ nI (kd (D k)) = 1 by rw [n_1, nI_eq (by omega) (by omega)]; exact k1) n_⟩ | refine ⟨fun n_ => absurd (show ¬ nI (kd (D k)) = 1 by rw [n_1, nI_eq (by omega) (by omega)]; exact k1) n_, fun _ => ?_⟩ | refine ⟨fun y_ => absurd y_ (show ¬ nI (kd (D k)) = 1 by rw [n_1, nI_eq (by omega) (by omega)]; exact k1), fun _ => ?_⟩ | refine ⟨fun _ => ?_, fun y_ => absurd y_ (show ¬ nI (kd (D k)) = 1 by rw [n_1, nI_eq (by omega) (by omega)]; exact k1)⟩)
                  have ee : eA D d k = rn D d (kd (D k)) d (k + 1) := by unfold eA; rw [if_neg k1]
                  have al : ∀ j, k ≤ j → j < eA D d k → kd (D j) = kd (D k) := by
                    intro j h1 h2
                    by_cases y : j = k
                    · subst y; rfl
                    · exact rn_all D d _ d (k + 1) j (by omega) (by rw [← ee]; exact h2)
                  by_cases k2 : kd (D k) = 2
                  · (first | refine ⟨fun _ => ?_, fun n_ => absurd (show nI (kd (D k)) = 2 by rw [k2]; rfl) n_⟩ | refine ⟨fun n_ => absurd (show nI (kd (D k)) = 2 by rw [k2]; rfl) n_, fun _ => ?_⟩ | refine ⟨fun y_ => absurd y_ (show nI (kd (D k)) = 2 by rw [k2]; rfl), fun _ => ?_⟩ | refine ⟨fun _ => ?_, fun y_ => absurd y_ (show nI (kd (D k)) = 2 by rw [k2]; rfl)⟩)
                    refine c_numberIn f1.1 (D := D) (k17 f1.1) (by rw [n17 f1.1]; omega) hE.1 (by omega) (fun j h1 h2 => ?_) ⟨_, rfl, f1.1, k17 f1.1, ?_⟩
                    · have a1 := al j h1 h2
                      rw [k2] at a1
                      obtain ⟨t1, t2⟩ := tp f1 j (by omega)
                      unfold kd at a1
                      refine ⟨?_, ?_, t2⟩
                      · split at a1
                        · omega
                        · split at a1
                          · omega
                          · split at a1 <;> omega
                      · split at a1
                        · omega
                        · split at a1
                          · omega
                          · split at a1 <;> omega
                    · rw [n21 f1.1]
                      refine ⟨v21, ?_⟩
                      rintro h47 rfl
                      refine nx _ ?_
                      have e2 : tcA D k (eA D d k) = 50 := by unfold tcA; rw [if_neg (by omega), if_pos k2]
                      have e3 : vlA D k (eA D d k) = nvl D (eA D d k - k) k 0 := by unfold vlA; rw [if_pos k2]
                      rw [e2, e3]
                      rfl
                  · (first | refine ⟨fun _ => ?_, fun n_ => absurd (show ¬ nI (kd (D k)) = 2 by rw [n_2, nI_eq (by omega) (by omega)]; exact k2) n_⟩ | refine ⟨fun n_ => absurd (show ¬ nI (kd (D k)) = 2 by rw [n_2, nI_eq (by omega) (by omega)]; exact k2) n_, fun _ => ?_⟩ | refine ⟨fun y_ => absurd y_ (show ¬ nI (kd (D k)) = 2 by rw [n_2, nI_eq (by omega) (by omega)]; exact k2), fun _ => ?_⟩ | refine ⟨fun _ => ?_, fun y_ => absurd y_ (show ¬ nI (kd (D k)) = 2 by rw [n_2, nI_eq (by omega) (by omega)]; exact k2)⟩)
                    refine c_wordIn f1.1 (D := D) (k17 f1.1) (by rw [n17 f1.1]; omega) hE.1 (by omega) (fun j h1 h2 => tp f1 j (by omega)) ⟨_, rfl, f1.1, k17 f1.1, ?_⟩
                    rw [n21 f1.1]
                    refine ⟨v21, ?_⟩
                    rintro h38 rfl
                    refine nx _ ?_
                    have e2 : tcA D k (eA D d k) = wix mW (tb D k (eA D d k)) 1 := by unfold tcA; rw [if_pos (by omega)]
                    have e3 := wix_le mW (tb D k (eA D d k)) 1
                    have e4 : mW.length = 25 := rfl
                    rw [e2]
                    unfold tkO
                    rw [if_neg (by omega), if_neg (by omega)]
        refine run d (k + 1) (by omega) (by omega) c (fun y => ?_) (fun _ => rfl)
        unfold eA
        rw [if_neg (by omega)]
      · exact fin (f + 1) k u P h c hk hP hu q e
  exact lp d 0 0 [] h0 (by omega) (Nat.zero_le _) (Nat.le_refl _) (Nat.le_refl _) ⟨⟨hs0, rfl, fun a _ _ => eqc_rfl⟩, fun j hj => by simp at hj⟩ rfl
