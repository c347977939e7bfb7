/-! ===== all that is kept, concrete ===== -/
def WXc (A : Nat → Nat) (h : ah_T) : Prop := wkX A h ∧ stX A h ∧ cgX A h ∧ liX A h ∧ woX A h ∧ hgX A h ∧ peX A h
section KE
variable {A A' : Nat → Nat} {h h' g : ah_T} {m a b c n k l : Nat} {co co' : Nat → Nat}
theorem dS_e (q : Ew A' noS = Ew A noS) : dS A' = dS A := by
  funext a b
  unfold dS
  rw [q]
theorem pG_e (e : ∀ l, l < n → co' l = co l) : pG n co' = pG n co := by
  funext m c
  refine propext (exists_congr fun l => ?_)
  constructor
  · rintro ⟨y1, y2, y3⟩
    exact ⟨y1, y2, by rw [← e l y1]; exact y3⟩
  · rintro ⟨y1, y2, y3⟩
    exact ⟨y1, y2, by rw [e l y1]; exact y3⟩
theorem rG_e (d : dS A' = dS A) (e : ∀ l, l < n → co' l = co l) : rG A' n co' = rG A n co := by
  funext m a
  unfold rG
  rw [d, pG_e e]
theorem cnd_e (d : dS A' = dS A) (e : ∀ l, l < n → co' l = co l) : cnd A' n co' = cnd A n co := by
  funext m a l
  unfold cnd
  refine propext (and_congr_right fun hl => ?_)
  rw [d, rG_e d e, e l hl]
theorem low_lt {P : Nat → Prop} (h : ∀ x, P x → x < n) (hn : 0 < n) : low P < n := by
  by_cases y : ∃ x, lsO P x
  · exact h _ (low_sp y).2.1
  · unfold low
    rw [dif_neg y]
    exact hn
theorem rSt_e (d : dS A' = dS A) (e : ∀ l, l < n → co' l = co l) (e0 : co' 0 = co 0) (c : Nat) : ∀ k, rSt A' n co' c k = rSt A n co c k
  | 0 => rfl
  | k + 1 => by
    show ((rSt A' n co' c k).1 ^^^ 2 ^ low (cnd A' n co' (rSt A' n co' c k).1 (rSt A' n co' c k).2), co' (low (cnd A' n co' (rSt A' n co' c k).1 (rSt A' n co' c k).2))) = ((rSt A n co c k).1 ^^^ 2 ^ low (cnd A n co (rSt A n co c k).1 (rSt A n co c k).2), co (low (cnd A n co (rSt A n co c k).1 (rSt A n co c k).2)))
    rw [rSt_e d e e0 c k, cnd_e d e]
    have : co' (low (cnd A n co (rSt A n co c k).1 (rSt A n co c k).2)) = co (low (cnd A n co (rSt A n co c k).1 (rSt A n co c k).2)) := by
      rcases Nat.eq_zero_or_pos n with z | z
      · have : low (cnd A n co (rSt A n co c k).1 (rSt A n co c k).2) = 0 := by
          unfold low
          rw [dif_neg (fun ⟨x, y⟩ => by have := y.2.1.1; omega)]
        rw [this]; exact e0
      · exact e _ (low_lt (fun x y => y.1) z)
    rw [this]
theorem rRow_e (d : dS A' = dS A) (e : ∀ l, l < n → co' l = co l) (e0 : co' 0 = co 0) (c k : Nat) : rRow A' n co' c k = rRow A n co c k := by
  unfold rRow
  rw [rSt_e d e e0, cnd_e d e]
theorem alR_e (d : dS A' = dS A) (e : ∀ l, l < n → co' l = co l) : alR A' n co' c ↔ alR A n co c := by
  unfold alR
  rw [d]
  exact ⟨fun y l hl => by rw [← e l hl]; exact y l hl, fun y l hl => by rw [e l hl]; exact y l hl⟩
theorem RXc_A (e : ∀ j, j < 90 → A' j = A j) (e5 : A' 245 = A 245) (e6 : A' 246 = A 246) (r : RXc A h) : RXc A' h := by
  obtain ⟨r1, ⟨w1, w2⟩, r3, r4⟩ := r
  have d := dS_e (Ew_A e e5 r1).1
  have ec : ∀ l, l < A 246 → coL A' l = coL A l := fun l hl => e (60 + 3 * l) (by omega)
  refine ⟨by rw [e5]; exact r1, ⟨by rw [e6]; exact w1, fun l hl => ?_⟩, ?_, ?_⟩
  · rw [e6] at hl
    rw [e (60 + 3 * l) (by omega), e (61 + 3 * l) (by omega), e (62 + 3 * l) (by omega)]
    exact w2 l hl
  · rcases r3 with y | ⟨y, k, st, of, b, ⟨g1, g2, g3, g4⟩, y2, y3⟩
    · exact .inl y
    · refine .inr ⟨y, k, st, of, b, ⟨g1, by rw [e6]; exact g2, fun t ht => ?_, fun l hl => ?_⟩, y2, fun s t hs ht => ?_⟩
      · obtain ⟨z1, l, z2, z3⟩ := g3 t ht
        exact ⟨z1, l, by rw [e6]; exact z2, by rw [ec l z2]; exact z3⟩
      · rw [e6] at hl
        rw [ec l hl]
        exact g4 l hl
      · have : rG A' k st = rG A k st := rG_e d (fun _ _ => rfl)
        rw [this]
        exact y3 s t hs ht
  · rcases r4 with y | ⟨c, hc, y1, y2⟩
    · exact .inl y
    · refine .inr ⟨c, hc, y1, ?_⟩
      unfold rdR at y2 ⊢
      rw [e6, rG_e d ec, alR_e d ec]
      rcases y2 with ⟨z1, z2, z3⟩ | z
      · refine .inl ⟨z1, z2, fun k hk => ?_⟩
        rw [rRow_e d ec (e 60 (by omega))]
        exact z3 k hk
      · exact .inr z
/-- cells that hold them stand -/
theorem RXc_f (e29 : eqc h h' 29) (e32 : ∀ j, ah_i h' 32 j = ah_i h 32 j) (e36 : ∀ j, ah_i h' 36 j = ah_i h 36 j) (e37 : ∀ j, ah_i h' 37 j = ah_i h 37 j) (eb : ∀ b, ah_r h 29 11 = some b → ∀ j, ah_i h' b j = ah_i h b j) (r : RXc A h) : RXc A h' := by
  obtain ⟨r1, r2, r3, r4⟩ := r
  refine ⟨r1, r2, ?_, ?_⟩
  · rcases r3 with y | ⟨y, k, st, of, b, ⟨g1, g2, g3, g4⟩, y2, y3⟩
    · exact .inl (by rw [e29.1]; exact y)
    · refine .inr ⟨by rw [e29.1]; exact y, k, st, of, b, ⟨by rw [e29.1]; exact g1, g2, fun t ht => by rw [e36]; exact g3 t ht, fun l hl => by rw [e37]; exact g4 l hl⟩, by rw [e29.2.2.1]; exact y2, fun s t hs ht => by rw [eb b y2]; exact y3 s t hs ht⟩
  · rcases r4 with y | ⟨c, hc, y1, y2⟩
    · exact .inl (by rw [e29.1]; exact y)
    · refine .inr ⟨c, hc, by rw [e29.1]; exact y1, ?_⟩
      unfold rdR at y2 ⊢
      rcases y2 with ⟨z1, z2, z3⟩ | ⟨z1, z2⟩
      · exact .inl ⟨z1, by rw [e29.1]; exact z2, fun k hk => by rw [e32]; exact z3 k hk⟩
      · exact .inr ⟨z1, by rw [e29.1]; exact z2⟩
theorem KXc_f (hx : ah_x h ≤ ah_x h') (er : ∀ j, ah_r h' 29 j = ah_r h 29 j) (eb : ∀ b, 123 ≤ b → b < ah_x h → ah_k h b = 14 → ah_n h b = 10240 → ah_k h' b = 14 ∧ ah_n h' b = 10240) (e1 : ah_i h' 63 1 = ah_i h 63 1) (e2 : ah_i h' 65 1 = ah_i h 65 1) (k : KXc h) : KXc h' := by
  obtain ⟨k1, k2, k3⟩ := k
  refine ⟨fun b y => ?_, by rw [e1]; exact k2, by rw [e2]; exact k3⟩
  rw [er] at y
  obtain ⟨z1, z2, z3, z4⟩ := k1 b y
  obtain ⟨w1, w2⟩ := eb b z1 z2 z3 z4
  exact ⟨z1, by omega, w1, w2⟩
theorem WXc_f (e : ∀ a j, wxc a j → ah_i h' a j = ah_i h a j) (w : WXc A h) : WXc A h' := by
  obtain ⟨w1, w2, w3, w4, w5, w6, w7⟩ := w
  exact ⟨wkX_fr (fun a j y => e a j (.inl y)) w1, stX_fr (fun a j y => e a j (.inr (.inl y))) w2, cgX_fr (fun a j y => e a j (.inr (.inr (.inl y)))) w3, liX_fr (fun a j y => e a j (.inr (.inr (.inr (.inl y))))) w4, woX_fr (fun a j y => e a j (.inr (.inr (.inr (.inr (.inl y)))))) w5, hgX_fr (fun a j y => e a j (.inr (.inr (.inr (.inr (.inr (.inl y))))))) w6, peX_fr (fun a j y => e a j (.inr (.inr (.inr (.inr (.inr (.inr y))))))) w7⟩
theorem wxc_c {a j : Nat} (w : wxc a j) : (a = 54 ∧ j = 3) ∨ a = 58 ∨ a = 60 ∨ (60 < a ∧ a < 82) := by
  unfold wxc Cwk Cst Ccg Cli Cwo Chg Cpc at w
  omega
theorem XP_c : XP KXc RXc WXc := by
  refine ⟨fun h h' f k => ?_, fun A h h' f k r => ?_, fun A h h' f k w => ?_, fun A A' h e e5 e6 r => RXc_A e e5 e6 r, fun A h h' wf f k => ?_, fun A h h' f k => ?_⟩
  · obtain ⟨f1, f2, f3, f4⟩ := f
    exact KXc_f f1 (f2 29 (by omega)).2.2.1 (fun b b1 b2 b3 b4 => by rw [(f3 b b1 b2 b3 b4).2.2.2.1, (f3 b b1 b2 b3 b4).2.2.2.2]; exact ⟨b3, b4⟩) ((f2 63 (by omega)).1 1) ((f2 65 (by omega)).1 1) k
  · obtain ⟨f1, f2, f3, f4⟩ := f
    refine RXc_f (f2 29 (by omega)) (f2 32 (by omega)).1 (f2 36 (by omega)).1 (f2 37 (by omega)).1 (fun b y => ?_) r
    obtain ⟨z1, z2, z3, z4⟩ := k.1 b y
    exact (f3 b z1 z2 z3 z4).1
  · obtain ⟨f1, f2, f3, f4⟩ := f
    refine WXc_f (fun a j y => ?_) w
    rcases wxc_c y with ⟨rfl, rfl⟩ | z | z | z
    · exact f4 3 (by decide)
    · exact (f2 a (by omega)).1 j
    · exact (f2 a (by omega)).1 j
    · exact (f2 a (by omega)).1 j
  · obtain ⟨f1, f2, f3, f4, f5, f6⟩ := f
    refine ⟨KXc_f (Nat.le_of_eq f1.symm) f4 (fun b b1 b2 b3 b4 => by have := f2 b (by omega) (by omega) (by omega) (by omega) (by omega) (by omega); rw [this.2.2.2.1, this.2.2.2.2]; exact ⟨b3, b4⟩) ((f2 63 (by decide) (by decide) (by decide) (by decide) (by decide) (by decide)).1 1) ((f2 65 (by decide) (by decide) (by decide) (by decide) (by decide) (by decide)).1 1) k, wf.1.1, wf.2.1, .inl f5, .inl f6⟩
  · obtain ⟨f1, f2, f3, f4, f5, g1, g2, g3, g4, g5, g6, g7, g8, g9⟩ := f
    refine ⟨KXc_f (Nat.le_of_eq f1.symm) (f2 29 (by decide) (by decide) (by decide) (by decide) (by decide) (by decide)).2.2.1 (fun b b1 b2 b3 b4 => by have := f2 b (by omega) (by omega) (by omega) (by omega) (by omega) (by omega); rw [this.2.2.2.1, this.2.2.2.2]; exact ⟨b3, b4⟩) ((f2 63 (by decide) (by decide) (by decide) (by decide) (by decide) (by decide)).1 1) ((f2 65 (by decide) (by decide) (by decide) (by decide) (by decide) (by decide)).1 1) k, ⟨.inl g2, .inl g3, .inl g4, ⟨fun l _ y => ?_, fun i _ y => ?_⟩, .inl g7, .inl g8, .inl g9⟩, fun r => ?_⟩
    · rw [g5, b_0] at y; exact absurd y (by decide)
    · rw [g6, b_0] at y; exact absurd y (by decide)
    · refine RXc_f (f2 29 (by decide) (by decide) (by decide) (by decide) (by decide) (by decide)) (f2 32 (by decide) (by decide) (by decide) (by decide) (by decide) (by decide)).1 (f2 36 (by decide) (by decide) (by decide) (by decide) (by decide) (by decide)).1 (f2 37 (by decide) (by decide) (by decide) (by decide) (by decide) (by decide)).1 (fun b y => ?_) r
      obtain ⟨z1, z2, z3, z4⟩ := k.1 b y
      exact (f2 b (by omega) (by omega) (by omega) (by omega) (by omega) (by omega)).1
theorem hW_c : hWp KXc RXc := fun A h _ r => ⟨r.1, r.2.1.1⟩
theorem KR_c : KRp KXc RXc := by
  refine ⟨fun h h' f k => ?_, fun A h h' f k r => ?_⟩
  · obtain ⟨f1, f2, f3⟩ := f
    exact KXc_f f1 (f2 29 (by omega)).2.2.1 (fun b b1 b2 b3 b4 => by rw [(f2 b (by omega)).2.2.2.1, (f2 b (by omega)).2.2.2.2]; exact ⟨b3, b4⟩) (f3 1 (by decide)).1 (f3 1 (by decide)).2 k
  · obtain ⟨f1, f2, f3⟩ := f
    refine RXc_f (f2 29 (by omega)) (f2 32 (by omega)).1 (f2 36 (by omega)).1 (f2 37 (by omega)).1 (fun b y => ?_) r
    obtain ⟨z1, z2, z3, z4⟩ := k.1 b y
    exact (f2 b (by omega)).1
theorem KT_c : KTp KXc := fun h k => ⟨k.2.1, k.2.2⟩
theorem Wk_c : Wp1 WXc wkX Cwk := by
  refine ⟨fun _ _ w => w.1, fun A h h' e w c => ?_⟩
  obtain ⟨w1, w2, w3, w4, w5, w6, w7⟩ := w
  refine ⟨c, stX_fr (fun a j y => e a j (.inr (.inl y)) ?_) w2, cgX_fr (fun a j y => e a j (.inr (.inr (.inl y))) ?_) w3, liX_fr (fun a j y => e a j (.inr (.inr (.inr (.inl y)))) ?_) w4, woX_fr (fun a j y => e a j (.inr (.inr (.inr (.inr (.inl y))))) ?_) w5, hgX_fr (fun a j y => e a j (.inr (.inr (.inr (.inr (.inr (.inl y)))))) ?_) w6, peX_fr (fun a j y => e a j (.inr (.inr (.inr (.inr (.inr (.inr y)))))) ?_) w7⟩
  all_goals (intro z; simp only [Cwk, Cst, Ccg, Cli, Cwo, Chg, Cpc] at y z; omega)
theorem Ws_c : Wp1 WXc stX Cst := by
  refine ⟨fun _ _ w => w.2.1, fun A h h' e w c => ?_⟩
  obtain ⟨w1, w2, w3, w4, w5, w6, w7⟩ := w
  refine ⟨wkX_fr (fun a j y => e a j (.inl y) ?_) w1, c, cgX_fr (fun a j y => e a j (.inr (.inr (.inl y))) ?_) w3, liX_fr (fun a j y => e a j (.inr (.inr (.inr (.inl y)))) ?_) w4, woX_fr (fun a j y => e a j (.inr (.inr (.inr (.inr (.inl y))))) ?_) w5, hgX_fr (fun a j y => e a j (.inr (.inr (.inr (.inr (.inr (.inl y)))))) ?_) w6, peX_fr (fun a j y => e a j (.inr (.inr (.inr (.inr (.inr (.inr y)))))) ?_) w7⟩
  all_goals (intro z; simp only [Cwk, Cst, Ccg, Cli, Cwo, Chg, Cpc] at y z; omega)
theorem Wc_c : Wp1 WXc cgX Ccg := by
  refine ⟨fun _ _ w => w.2.2.1, fun A h h' e w c => ?_⟩
  obtain ⟨w1, w2, w3, w4, w5, w6, w7⟩ := w
  refine ⟨wkX_fr (fun a j y => e a j (.inl y) ?_) w1, stX_fr (fun a j y => e a j (.inr (.inl y)) ?_) w2, c, liX_fr (fun a j y => e a j (.inr (.inr (.inr (.inl y)))) ?_) w4, woX_fr (fun a j y => e a j (.inr (.inr (.inr (.inr (.inl y))))) ?_) w5, hgX_fr (fun a j y => e a j (.inr (.inr (.inr (.inr (.inr (.inl y)))))) ?_) w6, peX_fr (fun a j y => e a j (.inr (.inr (.inr (.inr (.inr (.inr y)))))) ?_) w7⟩
  all_goals (intro z; simp only [Cwk, Cst, Ccg, Cli, Cwo, Chg, Cpc] at y z; omega)
theorem Wl_c : Wp1 WXc liX Cli := by
  refine ⟨fun _ _ w => w.2.2.2.1, fun A h h' e w c => ?_⟩
  obtain ⟨w1, w2, w3, w4, w5, w6, w7⟩ := w
  refine ⟨wkX_fr (fun a j y => e a j (.inl y) ?_) w1, stX_fr (fun a j y => e a j (.inr (.inl y)) ?_) w2, cgX_fr (fun a j y => e a j (.inr (.inr (.inl y))) ?_) w3, c, woX_fr (fun a j y => e a j (.inr (.inr (.inr (.inr (.inl y))))) ?_) w5, hgX_fr (fun a j y => e a j (.inr (.inr (.inr (.inr (.inr (.inl y)))))) ?_) w6, peX_fr (fun a j y => e a j (.inr (.inr (.inr (.inr (.inr (.inr y)))))) ?_) w7⟩
  all_goals (intro z; simp only [Cwk, Cst, Ccg, Cli, Cwo, Chg, Cpc] at y z; omega)
theorem Wo_c : Wp1 WXc woX Cwo := by
  refine ⟨fun _ _ w => w.2.2.2.2.1, fun A h h' e w c => ?_⟩
  obtain ⟨w1, w2, w3, w4, w5, w6, w7⟩ := w
  refine ⟨wkX_fr (fun a j y => e a j (.inl y) ?_) w1, stX_fr (fun a j y => e a j (.inr (.inl y)) ?_) w2, cgX_fr (fun a j y => e a j (.inr (.inr (.inl y))) ?_) w3, liX_fr (fun a j y => e a j (.inr (.inr (.inr (.inl y)))) ?_) w4, c, hgX_fr (fun a j y => e a j (.inr (.inr (.inr (.inr (.inr (.inl y)))))) ?_) w6, peX_fr (fun a j y => e a j (.inr (.inr (.inr (.inr (.inr (.inr y)))))) ?_) w7⟩
  all_goals (intro z; simp only [Cwk, Cst, Ccg, Cli, Cwo, Chg, Cpc] at y z; omega)
theorem Wh_c : Wp1 WXc hgX Chg := by
  refine ⟨fun _ _ w => w.2.2.2.2.2.1, fun A h h' e w c => ?_⟩
  obtain ⟨w1, w2, w3, w4, w5, w6, w7⟩ := w
  refine ⟨wkX_fr (fun a j y => e a j (.inl y) ?_) w1, stX_fr (fun a j y => e a j (.inr (.inl y)) ?_) w2, cgX_fr (fun a j y => e a j (.inr (.inr (.inl y))) ?_) w3, liX_fr (fun a j y => e a j (.inr (.inr (.inr (.inl y)))) ?_) w4, woX_fr (fun a j y => e a j (.inr (.inr (.inr (.inr (.inl y))))) ?_) w5, c, peX_fr (fun a j y => e a j (.inr (.inr (.inr (.inr (.inr (.inr y)))))) ?_) w7⟩
  all_goals (intro z; simp only [Cwk, Cst, Ccg, Cli, Cwo, Chg, Cpc] at y z; omega)
theorem Wp_c : Wp1 WXc peX Cpc := by
  refine ⟨fun _ _ w => w.2.2.2.2.2.2, fun A h h' e w c => ?_⟩
  obtain ⟨w1, w2, w3, w4, w5, w6, w7⟩ := w
  refine ⟨wkX_fr (fun a j y => e a j (.inl y) ?_) w1, stX_fr (fun a j y => e a j (.inr (.inl y)) ?_) w2, cgX_fr (fun a j y => e a j (.inr (.inr (.inl y))) ?_) w3, liX_fr (fun a j y => e a j (.inr (.inr (.inr (.inl y)))) ?_) w4, woX_fr (fun a j y => e a j (.inr (.inr (.inr (.inr (.inl y))))) ?_) w5, hgX_fr (fun a j y => e a j (.inr (.inr (.inr (.inr (.inr (.inl y)))))) ?_) w6, c⟩
  all_goals (intro z; simp only [Cwk, Cst, Ccg, Cli, Cwo, Chg, Cpc] at y z; omega)
end KE
