/-! ===== shutters: the class's cache ===== -/
def peO (A : Nat → Nat) (h : ah_T) : Prop := ah_i h 74 12 = 1 ∧ tsO (shR (gS A) (A 245) 3) h
def peX (A : Nat → Nat) (h : ah_T) : Prop := ah_i h 74 12 = 0 ∨ peO A h
def pqF (h g : ah_T) : Prop := grF (fun a => a = 74 ∨ P7 a) h g ∧ ∀ j, j ≠ 3 → j ≠ 4 → j ≠ 12 → ah_i g 74 j = ah_i h 74 j
section FQ
variable {KX : ah_T → Prop} {RX WX SX : (Nat → Nat) → ah_T → Prop} {A : Nat → Nat} {h g u : ah_T} {S w m l o k v a b n g0 x s t : Nat} {p : Nat → Bool} {st : Nat × Nat}
theorem peX_fr (e : ∀ a j, Cpc a j → ah_i g a j = ah_i h a j) (l : peX A h) : peX A g := by
  have e' : ∀ j, (j = 3 ∨ j = 4 ∨ j = 12) → ah_i g 74 j = ah_i h 74 j := fun j hj => e 74 j ⟨rfl, hj⟩
  unfold peX peO tsO at l ⊢
  rw [e' 12 (by omega), e' 4 (by omega), e' 3 (by omega)]
  exact l
theorem cm_nil : ∀ (u s : Nat), u < s → cmL s u = []
  | _, 0, h => absurd h (Nat.not_lt_zero _)
  | 0, s + 1, _ => by unfold cmL; rfl
  | u + 1, s + 1, h => by
    unfold cmL
    rw [cm_nil u (s + 1) (by omega), cm_nil u s (by omega)]; rfl
theorem foS_00 {G : Nat → Prop} {L : List Nat} (h : (foS G L (0, 0)).1 = 0) : foS G L (0, 0) = (0, 0) := Prod.ext h ((foS_z L (0, 0) ⟨fun _ => rfl, fun _ => rfl⟩).mp h)
theorem sh_s1 {G : Nat → Prop} (h : (shR G n s).1 = 0) : shR G n (s + 1) = foS G (cmL (s + 1) n) (0, 0) := if_pos h
theorem sh_s2 {G : Nat → Prop} (h : (shR G n s).1 ≠ 0) : shR G n (s + 1) = shR G n s := if_neg h
theorem sh_00 {G : Nat → Prop} : ∀ s, (shR G n s).1 = 0 → shR G n s = (0, 0)
  | 0, h => foS_00 h
  | s + 1, h => by
    by_cases z : (shR G n s).1 = 0
    · rw [sh_s1 z] at h ⊢; exact foS_00 h
    · rw [sh_s2 z] at h; exact absurd h z
theorem sh_up {G : Nat → Prop} (h : (shR G n s).1 ≠ 0) : ∀ d, shR G n (s + d) = shR G n s
  | 0 => rfl
  | d + 1 => by
    have := sh_up h d
    rw [show s + (d + 1) = (s + d) + 1 by omega, sh_s2 (by rw [this]; exact h), this]
theorem sh_no {G : Nat → Prop} (h : ∀ S, ¬ G S) : ∀ s, shR G n s = (0, 0)
  | 0 => foS_no _ _ (fun x _ => h x)
  | s + 1 => by rw [sh_s1 (by rw [sh_no h s])]; exact foS_no _ _ (fun x _ => h x)
theorem tsO_fr (e : ∀ j, (j = 3 ∨ j = 4) → ah_i g 74 j = ah_i h 74 j) (l : tsO st h) : tsO st g := ⟨by rw [e 4 (by omega)]; exact l.1, fun y => by rw [e 3 (by omega)]; exact l.2.1 y, l.2.2⟩
theorem c_findPeace {Q : Option Value → ah_T → Prop} (hs : Sh h) (c : cor g0 A h) (wl : wfL A) (wn : wfN A) (wf : wfW A) (p0 : peX A h) (hq : ∀ g, pqF h g → cor g0 A g → peO A g → Q none g) : Mt mX4_findPeace [.ref 74] h Q := by
  have h20 := wf.1
  refine T_X4_findPeace hs ⟨fun _ => ?_, fun y => ?_⟩
  rotate_left
  · rcases p0 with z | z
    · exact absurd z y
    · exact hq h ⟨grF_r hs, fun _ _ _ _ => rfl⟩ c z
  rintro h2 e2 h5 e5 h8 e8
  have s2 : Sh h2 := by rw [e2]; exact sh_si hs
  have s5 : Sh h5 := by rw [e5]; exact sh_si s2
  have s8 : Sh h8 := by rw [e8]; exact sh_si s5
  have c8 : cor g0 A h8 := by
    rw [e8]; refine cor_74 ?_ s5
    rw [e5]; refine cor_74 ?_ s2
    rw [e2]; exact cor_74 c hs
  have i12 : ah_i h8 74 12 = 1 := by rw [e8, ah_i_sn (by omega), e5, ah_i_sn (by omega), e2, ah_i_ss]
  have i3 : ah_i h8 74 4 = nI 0 := by rw [e8, ah_i_ss]; rfl
  have f8 : pqF h h8 := by
    refine ⟨?_, fun j n1 n2 n3 => by rw [e8, ah_i_sn (by omega), e5, ah_i_sn (by omega), e2, ah_i_sn (by omega)]⟩
    rw [e8]; refine grF_s (.inl rfl) (by decide) ?_
    rw [e5]; refine grF_s (.inl rfl) (by decide) ?_
    rw [e2]; exact grF_s (.inl rfl) (by decide) (grF_r hs)
  refine c_gatherQ s8 c8 (fun h11 f11 c11 q11 => ⟨rfl, f11.1, ?_⟩)
  have p11 : ppF h8 h11 := ppF_7 f11
  have t11 : tsO (0, 0) h11 := ⟨by rw [(f11.2.2.1 74 (by omega) (by show ¬ (74 = 79 ∨ 74 = 80 ∨ 74 = 81); omega)).1]; exact i3, fun y => absurd rfl y, ⟨fun _ => rfl, fun _ => rfl⟩⟩
  -- the end
  have fin : ∀ u, ppF h8 u → cor g0 A u → tsO (shR (gS A) (A 245) 3) u → Q none u := by
    intro u fu cu tu
    refine hq u ⟨grF_t f8.1 fu.1, fun j n1 n2 n3 => by rw [fu.2 j n1 n2]; exact f8.2 j n1 n2 n3⟩ cu ⟨by rw [fu.2 12 (by decide) (by decide)]; exact i12, tu⟩
  have l94 : ∀ (t : Nat), t < 2 ^ 20 → (∀ i, sS t i = true ↔ i < A 245 ∧ A (3 * i + 2) ≠ 1) → ∀ (q s : Nat) (u : ah_T), s + q = min (hN t) 3 + 1 → ppF h8 u → cor g0 A u → qrO A u → tsO (if s = 0 then (0, 0) else shR (gS A) (A 245) (s - 1)) u → Wp mX4_findPeace Q 0 0 94 [some (.ref 74), some (.int (nI t)), some (.int (nI (min (hN t) 3))), some (.int (nI s))] [] u := by
    intro t ht hb q
    have n20 := hN_le t
    induction q with
    | zero =>
      intro s u hq' fu cu qu tu
      have e9 : s = min (hN t) 3 + 1 := by omega
      subst e9
      refine T_X4_findPeace_94 fu.1.1 _ _ _ ?_
      (first | refine ⟨fun _ => ?_, fun n_ => absurd (show nI (min (hN t) 3) < nI (min (hN t) 3 + 1) from nI_lt (by omega) (by omega)) n_⟩ | refine ⟨fun n_ => absurd (show nI (min (hN t) 3) < nI (min (hN t) 3 + 1) from nI_lt (by omega) (by omega)) n_, fun _ => ?_⟩ | refine ⟨fun y_ => absurd y_ (show nI (min (hN t) 3) < nI (min (hN t) 3 + 1) from nI_lt (by omega) (by omega)), fun _ => ?_⟩ | refine ⟨fun _ => ?_, fun y_ => absurd y_ (show nI (min (hN t) 3) < nI (min (hN t) 3 + 1) from nI_lt (by omega) (by omega))⟩)
      rw [if_neg (Nat.succ_ne_zero _), Nat.add_sub_cancel] at tu
      have up : ∀ d, min (hN t) 3 + d ≤ 3 → shR (gS A) (A 245) (min (hN t) 3 + d) = shR (gS A) (A 245) (min (hN t) 3) := by
        intro d
        induction d with
        | zero => intro _; rfl
        | succ d ih =>
          intro hd
          have i2 := ih (by omega)
          have e0 : foS (gS A) (cmL (min (hN t) 3 + d + 1) (A 245)) (0, 0) = (0, 0) := by
            rw [foS_cl hb h20, cm_nil _ _ (by omega)]; rfl
          rw [show min (hN t) 3 + (d + 1) = min (hN t) 3 + d + 1 by omega]
          by_cases z : (shR (gS A) (A 245) (min (hN t) 3 + d)).1 = 0
          · rw [sh_s1 z, e0, ← i2, sh_00 _ z]
          · rw [sh_s2 z, i2]
      have := up (3 - min (hN t) 3) (by omega)
      rw [show min (hN t) 3 + (3 - min (hN t) 3) = 3 by omega] at this
      exact fin u fu cu (by rw [this]; exact tu)
    | succ q ih =>
      intro s u hq' fu cu qu tu
      have hsM : s ≤ min (hN t) 3 := by omega
      refine T_X4_findPeace_94 fu.1.1 _ _ _ ?_
      (first | refine ⟨fun _ => ?_, fun n_ => absurd (show ¬ nI (min (hN t) 3) < nI s from nI_nlt hsM (by omega)) n_⟩ | refine ⟨fun n_ => absurd (show ¬ nI (min (hN t) 3) < nI s from nI_nlt hsM (by omega)) n_, fun _ => ?_⟩ | refine ⟨fun y_ => absurd y_ (show ¬ nI (min (hN t) 3) < nI s from nI_nlt hsM (by omega)), fun _ => ?_⟩ | refine ⟨fun _ => ?_, fun y_ => absurd y_ (show ¬ nI (min (hN t) 3) < nI s from nI_nlt hsM (by omega))⟩)
      refine ⟨fun y => ?_, fun y => ?_⟩
      · have w0 : (if s = 0 then ((0, 0) : Nat × Nat) else shR (gS A) (A 245) (s - 1)).1 ≠ 0 := fun z => y (by rw [tu.1, tu.2.2.mp z]; rfl)
        have s0 : ¬ s = 0 := fun z => w0 (by rw [if_pos z])
        rw [if_neg s0] at w0 tu
        have := sh_up w0 (3 - (s - 1))
        rw [show s - 1 + (3 - (s - 1)) = 3 by omega] at this
        exact fin u fu cu (by rw [this]; exact tu)
      · have tu' := tu
        obtain ⟨t1, t2, t3⟩ := tu'
        have z0 : (if s = 0 then ((0, 0) : Nat × Nat) else shR (gS A) (A 245) (s - 1)).2 < 2 ^ 31 := by
          by_cases z : s = 0
          · rw [if_pos z]; decide
          · rw [if_neg z]
            have lb : ∀ s, s < 4 → (shR (gS A) (A 245) s).2 ≤ 1140 := by
              have one : ∀ s, s < 4 → (foS (gS A) (cmL s (A 245)) (0, 0)).2 ≤ 1140 := fun s hs4 => by
                by_cases q1 : s ≤ A 245
                · have := (ck_all (A 245) (by omega) s hs4 q1).2.2
                  have f := foS_le (g := gS A) (cmL s (A 245)) (0, 0)
                  have f' : (foS (gS A) (cmL s (A 245)) (0, 0)).2 ≤ 0 + (cmL s (A 245)).length := f
                  omega
                · rw [cm_nil _ _ (by omega)]; exact Nat.zero_le _
              intro s
              induction s with
              | zero => exact one 0
              | succ s ih =>
                intro h4
                by_cases q1 : (shR (gS A) (A 245) s).1 = 0
                · rw [sh_s1 q1]; exact one _ h4
                · rw [sh_s2 q1]; exact ih (by omega)
            have := lb (s - 1) (by omega)
            omega
        have w2 : (if s = 0 then ((0, 0) : Nat × Nat) else shR (gS A) (A 245) (s - 1)).2 = 0 := by
          rw [t1] at y
          exact (nI_eq (b := 0) z0 (by omega)).mp y
        have w1 := t3.mpr w2
        have ts : tsO (0, 0) u := by
          have : (if s = 0 then ((0, 0) : Nat × Nat) else shR (gS A) (A 245) (s - 1)) = (0, 0) := Prod.ext w1 w2
          rw [this] at tu
          exact tu
        refine c_tryShutters fu.1.1 cu wl wn wf qu rfl rfl (by omega) ht (by omega) ts (fun g fg cg e79 tg => ⟨rfl, fg.1.1, ?_⟩)
        rw [nI_1]
        refine ih (s + 1) g (by omega) (ppF_t fu fg) cg (fun a b i ha hb hi => by rw [e79]; exact qu a b i ha hb hi) ?_
        rw [if_neg (Nat.succ_ne_zero _), Nat.add_sub_cancel]
        rw [← foS_cl hb h20] at tg
        cases s with
        | zero => exact tg
        | succ s =>
          rw [if_neg (Nat.succ_ne_zero _), Nat.add_sub_cancel] at w1
          rw [sh_s1 w1]
          exact tg
  -- which ways are open
  have l31 : ∀ (q w t : Nat), w + q = A 245 → t < 2 ^ w → (∀ i, t.testBit i = true ↔ i < w ∧ A (3 * i + 2) ≠ 1) → Wp mX4_findPeace Q 0 0 31 [some (.ref 74), some (.int (nI t)), some (.int (nI w)), none] [] h11 := by
    intro q
    have cw := c11.2.2.2.2
    induction q with
    | zero =>
      intro w t hw tl tb
      have e9 : w = A 245 := by omega
      subst e9
      have t20 : t < 2 ^ 20 := Nat.lt_of_lt_of_le tl (Nat.pow_le_pow_right (by decide) h20)
      have n20 := hN_le t
      refine T_X4_findPeace_31 f11.1 _ _ ?_
      rw [show ah_i h11 2 3 = nI (A 245) from cw.1.2.1]
      (first | refine ⟨fun _ => ?_, fun n_ => absurd (show nI (A 245) ≤ nI (A 245) from nI_le (Nat.le_refl _) (by omega)) n_⟩ | refine ⟨fun n_ => absurd (show nI (A 245) ≤ nI (A 245) from nI_le (Nat.le_refl _) (by omega)) n_, fun _ => ?_⟩ | refine ⟨fun y_ => absurd y_ (show nI (A 245) ≤ nI (A 245) from nI_le (Nat.le_refl _) (by omega)), fun _ => ?_⟩ | refine ⟨fun _ => ?_, fun y_ => absurd y_ (show nI (A 245) ≤ nI (A 245) from nI_le (Nat.le_refl _) (by omega))⟩)
      refine c_isHopeless f11.1 c11 wl wn wf q11 (fun v hv => ⟨_, rfl, f11.1, fun _ => ?_, fun y => ?_⟩)
      · rw [bc_20 t20]
        have em : (if nI (hN t) < 3 then nI (hN t) else 3) = nI (min (hN t) 3) := by
          by_cases z : hN t < 3
          · rw [if_pos (show nI (hN t) < 3 from nI_lt (b := 3) z (by omega)), Nat.min_eq_left (by omega)]
          · rw [if_neg (show ¬ nI (hN t) < 3 from nI_nlt (b := 3) (by omega) (by omega)), Nat.min_eq_right (by omega)]; rfl
        have em' : (if nI (cb (fun i => t.testBit i) 20) < 3 then nI (cb (fun i => t.testBit i) 20) else 3) = nI (min (hN t) 3) := em
        rw [em']
        exact l94 t t20 tb (min (hN t) 3 + 1) 0 h11 (by omega) p11 c11 q11 t11
      · refine T_X4_findPeace_94 f11.1 _ _ _ ?_
        (first | refine ⟨fun _ => ?_, fun n_ => absurd (show (-1 : Int32) < 0 by decide) n_⟩ | refine ⟨fun n_ => absurd (show (-1 : Int32) < 0 by decide) n_, fun _ => ?_⟩ | refine ⟨fun y_ => absurd y_ (show (-1 : Int32) < 0 by decide), fun _ => ?_⟩ | refine ⟨fun _ => ?_, fun y_ => absurd y_ (show (-1 : Int32) < 0 by decide)⟩)
        refine fin h11 p11 c11 ?_
        rw [sh_no (fun S y2 => hv y S y2.1) 3]
        exact t11
    | succ q ih =>
      intro w t hw tl tb
      have hw2 : w < A 245 := by omega
      have ww := (wf.2.1 w hw2).2.2
      refine T_X4_findPeace_31 f11.1 _ _ ?_
      rw [show ah_i h11 2 3 = nI (A 245) from cw.1.2.1]
      (first | refine ⟨fun _ => ?_, fun n_ => absurd (show ¬ nI (A 245) ≤ nI w from nI_ge (by omega) (by omega)) n_⟩ | refine ⟨fun n_ => absurd (show ¬ nI (A 245) ≤ nI w from nI_ge (by omega) (by omega)) n_, fun _ => ?_⟩ | refine ⟨fun y_ => absurd y_ (show ¬ nI (A 245) ≤ nI w from nI_ge (by omega) (by omega)), fun _ => ?_⟩ | refine ⟨fun _ => ?_, fun y_ => absurd y_ (show ¬ nI (A 245) ≤ nI w from nI_ge (by omega) (by omega))⟩)
      refine c_wayG f11.1 cw hw2 (k := 2) (by omega) rfl rfl ⟨_, rfl, f11.1, ?_⟩
      rw [nI_1, nI_1sh (show w < 32 by omega), nI_or, or_p2 tl]
      refine ⟨fun y => ?_, fun y => ?_⟩
      · have a1 : A (3 * w + 2) = 1 := by
          rcases (show A (3 * w + 2) = 0 ∨ A (3 * w + 2) = 1 by omega) with z | z
          · rw [z] at y; exact absurd rfl y
          · exact z
        refine ih (w + 1) t (by omega) (by rw [Nat.pow_succ]; omega) (fun i => (tb i).trans ⟨fun z => ⟨by omega, z.2⟩, fun z => ⟨?_, z.2⟩⟩)
        by_cases e : i = w
        · rw [e] at z; exact absurd a1 z.2
        · omega
      · have a0 : A (3 * w + 2) = 0 := (nI_eq (b := 0) (by omega) (by omega)).mp y
        refine ih (w + 1) (t + 2 ^ w) (by omega) (by rw [Nat.pow_succ]; omega) (fun i => ?_)
        rw [← or_p2 tl, tb_o, Bool.or_eq_true, tb i, decide_eq_true_eq]
        constructor
        · rintro (z | z)
          · exact ⟨by omega, z.2⟩
          · subst z; exact ⟨by omega, by rw [a0]; decide⟩
        · rintro ⟨z1, z2⟩
          by_cases e : w = i
          · exact .inr e
          · exact .inl ⟨by omega, z2⟩
  exact l31 (A 245) 0 0 (by omega) (by decide) (fun i => by rw [Nat.zero_testBit]; exact ⟨fun y => absurd y (by decide), fun y => absurd y.1 (Nat.not_lt_zero _)⟩)
end FQ
