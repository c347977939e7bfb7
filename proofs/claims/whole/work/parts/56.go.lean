/-! ===== told: a lantern goes on ===== -/
section GO
variable {TX : ah_T → Nat → (Nat → Nat) → (Nat → Nat) → Nat → Prop} {A : Nat → Nat} {h : ah_T} {l g c : Nat}
def upG (A : Nat → Nat) (l g c : Nat) : Nat → Nat := up (up A (164 + 19 * l) (g + 2)) (166 + 19 * l + g) c
theorem upG_n {j : Nat} (h1 : j ≠ 164 + 19 * l) (h2 : j ≠ 166 + 19 * l + g) : upG A l g c j = A j := by unfold upG; rw [up_n h2, up_n h1]
theorem upG_1 : upG A l g c (164 + 19 * l) = g + 2 := by unfold upG; rw [up_n (by omega), up_s]
theorem upG_2 : upG A l g c (166 + 19 * l + g) = c := by unfold upG; rw [up_s]
def cGo (h : ah_T) (l g c : Nat) : ah_T := ah_si (ah_si h 9 (l * 19 + (4 + g)) (nI c)) 9 (l * 19 + 3) (nI (g + 1))
def mGo (h : ah_T) (l g c : Nat) : ah_T := ah_si (ah_si h 84 (164 + 19 * l) (nI (g + 2))) 84 (166 + 19 * l + g) (nI c)
theorem cGo_eq {a : Nat} {h' : ah_T} (q : eqc h h' a) (h2 : a ≠ 9) : eqc h (cGo h' l g c) a := eqc_si (eqc_si q h2) h2
theorem mGo_eq {a : Nat} {h' : ah_T} (q : eqc h h' a) (h2 : a ≠ 84) : eqc h (mGo h' l g c) a := eqc_si (eqc_si q h2) h2
theorem x_cGo : ah_x (cGo h l g c) = ah_x h := by unfold cGo; rw [ah_x_si, ah_x_si]
theorem x_mGo : ah_x (mGo h l g c) = ah_x h := by unfold mGo; rw [ah_x_si, ah_x_si]
theorem sh_cGo (hs : Sh h) : Sh (cGo h l g c) := sh_si (sh_si hs)
theorem sh_mGo (hs : Sh h) : Sh (mGo h l g c) := sh_si (sh_si hs)
abbrev fGo (h : ah_T) (l g c : Nat) : ah_T := god (mGo (chg (cGo h l g c)) l g c)
theorem fGo_eq {a : Nat} (h0 : a ≠ 0) (h2 : a ≠ 9) (h3 : a ≠ 82) (h4 : a ≠ 84) : eqc h (fGo h l g c) a := god_eq (mGo_eq (chg_eq (cGo_eq eqc_rfl h2) h0) h4) h3
theorem fGo_9 (j : Nat) : ah_i (fGo h l g c) 9 j = if j = l * 19 + 3 then nI (g + 1) else if j = l * 19 + (4 + g) then nI c else ah_i h 9 j := by
  rw [(god_eq (mGo_eq (chg_eq eqc_rfl (by decide)) (by decide)) (by decide) : eqc (cGo h l g c) _ 9).1]
  unfold cGo
  rw [ah_i_si, ah_i_si]
  simp only [true_and]
theorem fGo_84 (j : Nat) : ah_i (fGo h l g c) 84 j = if j = 166 + 19 * l + g then nI c else if j = 164 + 19 * l then nI (g + 2) else ah_i h 84 j := by
  rw [god_i (by decide)]
  unfold mGo
  rw [ah_i_si, ah_i_si, chg_i (by decide), (cGo_eq eqc_rfl (by decide) : eqc h (cGo h l g c) 84).1]
  simp only [true_and]
theorem tl_Go : tl h (fGo h l g c) := tl_mk x_cGo x_mGo (fun a h1 => cGo_eq eqc_rfl (by omega)) (fun j hj => by rw [(cGo_eq eqc_rfl (by decide) : eqc h (cGo h l g c) 0).1]) (fun a h1 => mGo_eq eqc_rfl h1)
theorem fGo_18 : ah_i (fGo h l g c) 0 18 = ah_i h 0 18 := by
  rw [(god_eq (mGo_eq eqc_rfl (by decide)) (by decide) : eqc (chg (cGo h l g c)) _ 0).1, chg_0, if_neg (by decide), if_neg (by decide), (cGo_eq eqc_rfl (by decide) : eqc h (cGo h l g c) 0).1]
theorem cpL_go (hl : l < A 248) (hg : A (164 + 19 * l) = g + 1) (hg2 : g < 15) (w : wfN A) (q : cpL A h 8 84 0) : cpL (upG A l g c) (fGo h l g c) 8 84 0 := by
  obtain ⟨q1, q2, q3, q4, q5⟩ := q
  obtain ⟨v1, v2⟩ := w
  simp only [Nat.zero_add] at q4
  have e248 : upG A l g c 248 = A 248 := upG_n (by omega) (by omega)
  have f8 := (fGo_eq (h := h) (l := l) (g := g) (c := c) (a := 8) (by decide) (by decide) (by decide) (by decide)).1
  unfold cpL
  simp only [Nat.zero_add, e248]
  refine ⟨by rw [f8]; exact q1, by rw [f8]; exact q2, by rw [f8]; exact q3, by rw [fGo_84, if_neg (by omega), if_neg (by omega)]; exact q4, fun k hk => ?_⟩
  obtain ⟨v3, v4, v5, v6, v7⟩ := v2 k hk
  obtain ⟨r1, r2, r3, r4, r5, r6, r7, r8, r9⟩ := q5 k hk
  unfold cpL1
  simp only [Nat.zero_add] at r6 r7 r8 r9 ⊢
  rcases Nat.lt_or_ge k l with z | z
  · have e : ∀ j, 162 + 19 * k ≤ j → j < 181 + 19 * k → upG A l g c j = A j := fun j h1 h2 => upG_n (by omega) (by omega)
    have f9 : ∀ j, j < 19 * k + 19 → ah_i (fGo h l g c) 9 j = ah_i h 9 j := fun j h2 => by rw [fGo_9, if_neg (by omega), if_neg (by omega)]
    have f84 : ∀ j, j < 181 + 19 * k → ah_i (fGo h l g c) 84 j = ah_i h 84 j := fun j h2 => by rw [fGo_84, if_neg (by omega), if_neg (by omega)]
    rw [e _ (by omega) (by omega), e _ (by omega) (by omega), e _ (by omega) (by omega), e _ (by omega) (by omega), f9 _ (by omega), f9 _ (by omega), f9 _ (by omega), f9 _ (by omega), f84 _ (by omega), f84 _ (by omega), f84 _ (by omega)]
    refine ⟨r1, r2, r3, r4, fun i hi => ?_, r6, r7, r8, fun i hi => ?_⟩
    · rw [e _ (by omega) (by omega), f9 _ (by omega)]; exact r5 i hi
    · rw [e _ (by omega) (by omega), f84 _ (by omega)]; exact r9 i hi
  rcases Nat.lt_or_ge l k with z2 | z2
  · have e : ∀ j, 162 + 19 * k ≤ j → upG A l g c j = A j := fun j h1 => upG_n (by omega) (by omega)
    have f9 : ∀ j, 19 * k ≤ j → ah_i (fGo h l g c) 9 j = ah_i h 9 j := fun j h2 => by rw [fGo_9, if_neg (by omega), if_neg (by omega)]
    have f84 : ∀ j, 162 + 19 * k ≤ j → ah_i (fGo h l g c) 84 j = ah_i h 84 j := fun j h2 => by rw [fGo_84, if_neg (by omega), if_neg (by omega)]
    rw [e _ (by omega), e _ (by omega), e _ (by omega), e _ (by omega), f9 _ (by omega), f9 _ (by omega), f9 _ (by omega), f9 _ (by omega), f84 _ (by omega), f84 _ (by omega), f84 _ (by omega)]
    refine ⟨r1, r2, r3, r4, fun i hi => ?_, r6, r7, r8, fun i hi => ?_⟩
    · rw [e _ (by omega), f9 _ (by omega)]; exact r5 i hi
    · rw [e _ (by omega), f84 _ (by omega)]; exact r9 i hi
  · have el : k = l := by omega
    subst el
    rw [hg] at r4 r5 r8 r9
    rw [upG_1, upG_n (j := 162 + 19 * k) (by omega) (by omega), upG_n (j := 163 + 19 * k) (by omega) (by omega), upG_n (j := 165 + 19 * k) (by omega) (by omega)]
    refine ⟨by rw [fGo_9, if_neg (by omega), if_neg (by omega)]; exact r1, by rw [fGo_9, if_neg (by omega), if_neg (by omega)]; exact r2, by rw [fGo_9, if_neg (by omega), if_neg (by omega)]; exact r3, by rw [fGo_9, if_pos (by omega)]; rfl, fun i hi => ?_, by rw [fGo_84, if_neg (by omega), if_neg (by omega)]; exact r6, by rw [fGo_84, if_neg (by omega), if_neg (by omega)]; exact r7, by rw [fGo_84, if_neg (by omega), if_pos (by omega)], fun i hi => ?_⟩
    · rw [fGo_9, if_neg (by omega)]
      by_cases ei : i = g
      · subst ei
        rw [if_pos (by omega), upG_2]
      · rw [if_neg (by omega), upG_n (by omega) (by omega)]
        exact r5 i (by omega)
    · rw [fGo_84]
      by_cases ei : i = g + 1
      · subst ei
        rw [if_pos (by omega), show 165 + 19 * k + (g + 1) = 166 + 19 * k + g by omega, upG_2]
      · rw [if_neg (by omega), if_neg (by omega), upG_n (by omega) (by omega)]
        exact r9 i (by omega)
theorem wf_go (wf : WF A) (hl : l < A 248) (hg : A (164 + 19 * l) = g + 1) (hg2 : g < 15) (hc : c < 12) : WF (upG A l g c) := by
  obtain ⟨w1, w2, w3, ⟨a1, a2⟩, w5, w6, w7, w8⟩ := wf
  refine ⟨wfW_fr (fun j _ => upG_n (by omega) (by omega)) (upG_n (by omega) (by omega)) w1, wfL_fr (fun j _ _ => upG_n (by omega) (by omega)) (upG_n (by omega) (by omega)) w2, wfS_fr (fun j _ _ => upG_n (by omega) (by omega)) (upG_n (by omega) (by omega)) (by rw [upG_n (by omega) (by omega)]; omega) w3, ⟨by rw [upG_n (by omega) (by omega)]; omega, fun k hk => ?_⟩, wfE_fr (fun j _ _ => upG_n (by omega) (by omega)) (upG_n (by omega) (by omega)) w5, wfO_fr (fun j _ _ => upG_n (by omega) (by omega)) (upG_n (by omega) (by omega)) (by rw [upG_n (by omega) (by omega)]; omega) w6, wfT_fr (fun j _ _ => upG_n (by omega) (by omega)) w7, wfX_fr (fun j _ _ => upG_n (by omega) (by omega)) w8⟩
  rw [upG_n (by omega) (by omega)] at hk
  obtain ⟨v3, v4, v5, v6, v7⟩ := a2 k hk
  by_cases ek : k = l
  · subst ek
    rw [upG_1, upG_n (j := 162 + 19 * k) (by omega) (by omega), upG_n (j := 163 + 19 * k) (by omega) (by omega)]
    refine ⟨v3, v4, by omega, by omega, fun i hi => ?_⟩
    by_cases ei : i = g + 1
    · subst ei
      rw [show 165 + 19 * k + (g + 1) = 166 + 19 * k + g by omega, upG_2]
      exact hc
    · rw [upG_n (by omega) (by omega)]
      exact v7 i (by omega)
  · have e : ∀ j, 162 + 19 * k ≤ j → j < 181 + 19 * k → upG A l g c j = A j := fun j h1 h2 => upG_n (by omega) (by omega)
    rw [e _ (by omega) (by omega), e _ (by omega) (by omega), e _ (by omega) (by omega)]
    refine ⟨v3, v4, v5, v6, fun i hi => ?_⟩
    rw [e _ (by omega) (by omega)]
    exact v7 i hi
end GO
section RW
variable {TX : ah_T → Nat → (Nat → Nat) → (Nat → Nat) → Nat → Prop} {CC : (Nat → Nat) → ah_T → Prop} {CM : Nat → (Nat → Nat) → ah_T → Prop} {n : Nat}
/-- the model's go, by what lies ahead of it -/
theorem m_go {Q : Option Value → ah_T → Prop} {A : Nat → Nat} {h : ah_T} (hs : Sh h) (m : mWy A h) {l g c : Nat} (hl : l < 2) (hln : l < A 248) (h248 : A 248 ≤ 2) (e248 : ah_i h 84 248 = nI (A 248)) (hg : ah_i h 84 (164 + 19 * l) = nI (g + 1)) (hg2 : g ≤ 15) {la : Nat} (hla : la < 12) (hlast : ah_i h 84 (165 + 19 * l + g) = nI la) (hc : c < 12)
    (k3 : la ≠ c → ¬ hasW A la c → Mt mX12_refuses [.ref 82, .int (-3)] h (ab_qi fun v h1 => Sh h1 ∧ Q (some (.int v)) h1)) (k5 : (la = c ∨ hasW A la c) → g = 15 → Mt mX12_refuses [.ref 82, .int (-5)] h (ab_qi fun v h1 => Sh h1 ∧ Q (some (.int v)) h1))
    (k0 : (la = c ∨ hasW A la c) → g < 15 → Mt mX12_good [.ref 82, .int (nI (g + 1))] (mGo h l g c) (ab_qi fun v h1 => Sh h1 ∧ Q (some (.int v)) h1)) : Mt mX12_go [.ref 82, .int (nI l), .int (nI c)] h Q := by
  have c1 : ¬ f_X11_isIn (nI c) 12 = 0 := q_is0 (n := 12) (by decide) hc
  have hn84 := n84 hs
  have vi : ∀ k, k < 5860 → vp_in (nI k) (ah_n h 84) := fun k hk => by rw [hn84]; exact (vp_nI (by omega)).mpr hk
  have f1 : 162 + 19 * nI l + 2 = nI (164 + 19 * l) := by grind
  have f2 : nI (164 + 19 * l) + nI (g + 1) = nI (165 + 19 * l + g) := by rw [nI_add]; congr 1; omega
  have f3 : nI (164 + 19 * l) + nI (g + 2) = nI (166 + 19 * l + g) := by rw [nI_add]; congr 1; omega
  have end_ : (la = c ∨ hasW A la c) → (vp_in (nI (164 + 19 * l)) (ah_n h 84)) ∧ ((¬ (nI (g + 1)) = 16 → (vp_in (nI (164 + 19 * l)) (ah_n h 84)) ∧ (vp_in (nI (164 + 19 * l)) (ah_n h 84)) ∧ (∀ h10, h10 = ah_si h 84 (164 + 19 * l) (nI (g + 1) + 1) → (vp_in (nI (164 + 19 * l)) (ah_n h10 84)) ∧ (vp_in (nI (164 + 19 * l) + (ah_i h10 84 (164 + 19 * l))) (ah_n h10 84)) ∧ (∀ h15, h15 = ah_si h10 84 (Int32.toNatClampNeg (nI (164 + 19 * l) + (ah_i h10 84 (164 + 19 * l)))) (nI c) → (vp_in (nI (164 + 19 * l)) (ah_n h15 84)) ∧ (Mt mX12_good [.ref 82, .int ((ah_i h15 84 (164 + 19 * l)) - 1)] h15 (ab_qi fun v21 h19 => Sh h19 ∧ Q (some (.int v21)) h19))))) ∧ ((nI (g + 1)) = 16 → (Mt mX12_refuses [.ref 82, .int (-5)] h (ab_qi fun v24 h22 => Sh h22 ∧ Q (some (.int v24)) h22)))) := by
    intro hw
    refine ⟨vi _ (by omega), fun c16 => ?_, fun c16 => ?_⟩
    · have hg3 : g < 15 := by
        rw [n_16, nI_eq (by omega) (by omega)] at c16
        omega
      refine ⟨vi _ (by omega), vi _ (by omega), ?_⟩
      rw [nI_1]
      rintro h10 rfl
      rw [ah_i_ss, show g + 1 + 1 = g + 2 from rfl, f3, nI_clamp (by omega), ah_n_si]
      refine ⟨vi _ (by omega), vi _ (by omega), ?_⟩
      rintro h15 rfl
      rw [ah_i_sn (by omega), ah_i_ss, ah_n_si, ah_n_si]
      refine ⟨vi _ (by omega), ?_⟩
      rw [show g + 2 = g + 1 + 1 from rfl, nI_pred]
      exact k0 hw hg3
    · refine k5 hw ?_
      rw [n_16, nI_eq (by omega) (by omega)] at c16
      omega
  refine T_X12_go hs _ _ ?_
  simp only [q_corner]
  (first | refine ⟨fun _ => ?_, fun n_ => absurd (c1) n_⟩ | refine ⟨fun n_ => absurd (c1) n_, fun _ => ?_⟩ | refine ⟨fun y_ => absurd y_ (c1), fun _ => ?_⟩ | refine ⟨fun _ => ?_, fun y_ => absurd y_ (c1)⟩)
  have e5 : ¬ f_X12_isLantern h (nI l) = 0 := by unfold f_X12_isLantern; rw [cl_248, e248, q_has (by omega), if_pos (by grind)]; decide
  (first | refine ⟨fun _ => ?_, fun n_ => absurd (e5) n_⟩ | refine ⟨fun n_ => absurd (e5) n_, fun _ => ?_⟩ | refine ⟨fun y_ => absurd y_ (e5), fun _ => ?_⟩ | refine ⟨fun _ => ?_, fun y_ => absurd y_ (e5)⟩)
  rw [f1, nI_clamp (by omega), hg, f2, nI_clamp (by omega), hlast]
  refine ⟨vi _ (by omega), vi _ (by omega), fun e => ?_, fun e => ?_⟩
  · exact end_ (.inl ((nI_eq (by omega) (by omega)).mp e))
  · have hne : la ≠ c := fun q => e (by rw [q])
    refine m_hasWay hs m la c hla hc (fun _ hw => ⟨_, rfl, hs, ?_⟩) (fun q => ⟨_, rfl, hs, ?_⟩)
    · (first | refine ⟨fun _ => ?_, fun n_ => absurd (show ¬ (1 : Int32) = 0 by decide) n_⟩ | refine ⟨fun n_ => absurd (show ¬ (1 : Int32) = 0 by decide) n_, fun _ => ?_⟩ | refine ⟨fun y_ => absurd y_ (show ¬ (1 : Int32) = 0 by decide), fun _ => ?_⟩ | refine ⟨fun _ => ?_, fun y_ => absurd y_ (show ¬ (1 : Int32) = 0 by decide)⟩)
      rw [hg]
      exact end_ (.inr hw)
    · (first | refine ⟨fun _ => ?_, fun n_ => absurd (show (0 : Int32) = 0 by rfl) n_⟩ | refine ⟨fun n_ => absurd (show (0 : Int32) = 0 by rfl) n_, fun _ => ?_⟩ | refine ⟨fun y_ => absurd y_ (show (0 : Int32) = 0 by rfl), fun _ => ?_⟩ | refine ⟨fun _ => ?_, fun y_ => absurd y_ (show (0 : Int32) = 0 by rfl)⟩)
      exact k3 hne (fun z => q ⟨hne, z⟩)
end RW
