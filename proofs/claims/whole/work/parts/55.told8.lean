/-! ===== told: lanterns ===== -/
section LA
variable {TX : ah_T → Nat → (Nat → Nat) → (Nat → Nat) → Nat → Prop} {A : Nat → Nat} {h : ah_T} {n x y z : Nat}
/-- the row of a new lantern -/
def upL (A : Nat → Nat) (n x y z : Nat) : Nat → Nat := up (up (up (up (up A (162 + 19 * n) x) (163 + 19 * n) y) (164 + 19 * n) 1) (165 + 19 * n) z) 248 (n + 1)
theorem upL_n {j : Nat} (h1 : j ≠ 248) (h2 : j < 162 + 19 * n ∨ 165 + 19 * n < j) : upL A n x y z j = A j := by
  unfold upL
  rw [up_n h1, up_n (by omega), up_n (by omega), up_n (by omega), up_n (by omega)]
theorem upL_m : upL A n x y z 248 = n + 1 := up_s _ _ _
theorem upL_1 (hn : n < 2) : upL A n x y z (162 + 19 * n) = x := by unfold upL; rw [up_n (by omega), up_n (by omega), up_n (by omega), up_n (by omega), up_s]
theorem upL_2 (hn : n < 2) : upL A n x y z (163 + 19 * n) = y := by unfold upL; rw [up_n (by omega), up_n (by omega), up_n (by omega), up_s]
theorem upL_3 (hn : n < 2) : upL A n x y z (164 + 19 * n) = 1 := by unfold upL; rw [up_n (by omega), up_n (by omega), up_s]
theorem upL_4 (hn : n < 2) : upL A n x y z (165 + 19 * n) = z := by unfold upL; rw [up_n (by omega), up_s]
def cLa (h : ah_T) (n : Nat) (x y z : Nat) : ah_T := ah_si (w3 (ab_fl h 9 (n * 19) (n * 19 + 19) 0) 9 (n * 19) (nI x) (nI y) (nI z)) 8 3 (nI (n + 1))
def mLa (h : ah_T) (n : Nat) (x y z : Nat) : ah_T := ah_si (ah_si (ah_si (ah_si (ah_si h 84 (162 + 19 * n) (nI x)) 84 (163 + 19 * n) (nI y)) 84 (164 + 19 * n) 1) 84 (165 + 19 * n) (nI z)) 84 248 (nI (n + 1))
theorem cLa_eq {a : Nat} {h' : ah_T} (q : eqc h h' a) (h1 : a ≠ 8) (h2 : a ≠ 9) : eqc h (cLa h' n x y z) a := eqc_si (w3_eq (eqc_fl q h2) h2) h1
theorem mLa_eq {a : Nat} {h' : ah_T} (q : eqc h h' a) (h1 : a ≠ 84) : eqc h (mLa h' n x y z) a := eqc_si (eqc_si (eqc_si (eqc_si (eqc_si q h1) h1) h1) h1) h1
theorem x_cLa : ah_x (cLa h n x y z) = ah_x h := by unfold cLa; rw [ah_x_si, x_w3, x_fl]
theorem x_mLa : ah_x (mLa h n x y z) = ah_x h := by unfold mLa; rw [ah_x_si, ah_x_si, ah_x_si, ah_x_si, ah_x_si]
theorem sh_cLa (hs : Sh h) : Sh (cLa h n x y z) := sh_si (sh_w3 (sh_fl hs))
theorem sh_mLa (hs : Sh h) : Sh (mLa h n x y z) := sh_si (sh_si (sh_si (sh_si (sh_si hs))))
theorem cLa_8 (j : Nat) : ah_i (cLa h n x y z) 8 j = if j = 3 then nI (n + 1) else ah_i h 8 j := by
  unfold cLa
  rw [ah_i_si, (w3_eq (eqc_fl eqc_rfl (by omega)) (by omega) : eqc h _ 8).1]
  simp only [true_and]
theorem cLa_9 (j : Nat) : ah_i (cLa h n x y z) 9 j = if j = n * 19 then nI x else if j = n * 19 + 1 then nI y else if j = n * 19 + 2 then nI z else if n * 19 ≤ j ∧ j < n * 19 + 19 then 0 else ah_i h 9 j := by
  unfold cLa
  rw [ah_i_sn (by omega), w3_i, ah_i_fl]
  simp only [true_and]
theorem mLa_84 (j : Nat) : ah_i (mLa h n x y z) 84 j = if j = 248 then nI (n + 1) else if j = 165 + 19 * n then nI z else if j = 164 + 19 * n then 1 else if j = 163 + 19 * n then nI y else if j = 162 + 19 * n then nI x else ah_i h 84 j := by
  unfold mLa
  rw [ah_i_si, ah_i_si, ah_i_si, ah_i_si, ah_i_si]
  simp only [true_and]
abbrev fLa (h : ah_T) (n : Nat) (x y z : Nat) : ah_T := god (mLa (chg (cLa h n x y z)) n x y z)
theorem fLa_eq {a : Nat} (h0 : a ≠ 0) (h1 : a ≠ 8) (h2 : a ≠ 9) (h3 : a ≠ 82) (h4 : a ≠ 84) : eqc h (fLa h n x y z) a := god_eq (mLa_eq (chg_eq (cLa_eq eqc_rfl h1 h2) h0) h4) h3
theorem fLa_8 (j : Nat) : ah_i (fLa h n x y z) 8 j = if j = 3 then nI (n + 1) else ah_i h 8 j := by
  rw [(god_eq (mLa_eq (chg_eq eqc_rfl (by decide)) (by decide)) (by decide) : eqc (cLa h n x y z) _ 8).1, cLa_8]
theorem fLa_9 (j : Nat) : ah_i (fLa h n x y z) 9 j = if j = n * 19 then nI x else if j = n * 19 + 1 then nI y else if j = n * 19 + 2 then nI z else if n * 19 ≤ j ∧ j < n * 19 + 19 then 0 else ah_i h 9 j := by
  rw [(god_eq (mLa_eq (chg_eq eqc_rfl (by decide)) (by decide)) (by decide) : eqc (cLa h n x y z) _ 9).1, cLa_9]
theorem fLa_84 (j : Nat) : ah_i (fLa h n x y z) 84 j = if j = 248 then nI (n + 1) else if j = 165 + 19 * n then nI z else if j = 164 + 19 * n then 1 else if j = 163 + 19 * n then nI y else if j = 162 + 19 * n then nI x else ah_i h 84 j := by
  rw [god_i (by decide), mLa_84, chg_i (by decide), (cLa_eq eqc_rfl (by decide) (by decide) : eqc h (cLa h n x y z) 84).1]
theorem tl_La : tl h (fLa h n x y z) := tl_mk x_cLa x_mLa (fun a h1 => cLa_eq eqc_rfl (by omega) (by omega)) (fun j hj => by rw [(cLa_eq eqc_rfl (by decide) (by decide) : eqc h (cLa h n x y z) 0).1]) (fun a h1 => mLa_eq eqc_rfl h1)
theorem fLa_18 : ah_i (fLa h n x y z) 0 18 = ah_i h 0 18 := by
  rw [(god_eq (mLa_eq eqc_rfl (by decide)) (by decide) : eqc (chg (cLa h n x y z)) _ 0).1, chg_0, if_neg (by decide), if_neg (by decide), (cLa_eq eqc_rfl (by decide) (by decide) : eqc h (cLa h n x y z) 0).1]
theorem cpL_add (hn : A 248 < 2) (w : wfN A) (q : cpL A h 8 84 0) : cpL (upL A (A 248) x y z) (fLa h (A 248) x y z) 8 84 0 := by
  obtain ⟨q1, q2, q3, q4, q5⟩ := q
  obtain ⟨v1, v2⟩ := w
  simp only [Nat.zero_add] at q4
  unfold cpL
  simp only [Nat.zero_add, upL_m]
  refine ⟨by rw [fLa_8, if_neg (by decide)]; exact q1, by rw [fLa_8, if_neg (by decide)]; exact q2, by rw [fLa_8, if_pos rfl], by rw [fLa_84, if_pos rfl], fun l hl => ?_⟩
  unfold cpL1
  simp only [Nat.zero_add]
  rcases Nat.lt_or_ge l (A 248) with k | k
  · obtain ⟨v3, v4, v5, v6, v7⟩ := v2 l k
    obtain ⟨r1, r2, r3, r4, r5, r6, r7, r8, r9⟩ := q5 l k
    simp only [Nat.zero_add] at r6 r7 r8 r9
    have e : ∀ j, j < 162 + 19 * A 248 → upL A (A 248) x y z j = A j := fun j hj => upL_n (by omega) (by omega)
    have f9 : ∀ j, j < 19 * A 248 → ah_i (fLa h (A 248) x y z) 9 j = ah_i h 9 j := fun j hj => by rw [fLa_9, if_neg (by omega), if_neg (by omega), if_neg (by omega), if_neg (by omega)]
    have f84 : ∀ j, j < 162 + 19 * A 248 → ah_i (fLa h (A 248) x y z) 84 j = ah_i h 84 j := fun j hj => by rw [fLa_84, if_neg (by omega), if_neg (by omega), if_neg (by omega), if_neg (by omega), if_neg (by omega)]
    rw [e _ (by omega), e _ (by omega), e _ (by omega), e _ (by omega), f9 _ (by omega), f9 _ (by omega), f9 _ (by omega), f9 _ (by omega), f84 _ (by omega), f84 _ (by omega), f84 _ (by omega)]
    refine ⟨r1, r2, r3, r4, fun i hi => ?_, r6, r7, r8, fun i hi => ?_⟩
    · rw [e _ (by omega), f9 _ (by omega)]; exact r5 i hi
    · rw [e _ (by omega), f84 _ (by omega)]; exact r9 i hi
  · have el : l = A 248 := by omega
    subst el
    rw [upL_1 hn, upL_2 hn, upL_3 hn, upL_4 hn]
    refine ⟨by rw [fLa_9, if_pos (by omega)], by rw [fLa_9, if_neg (by omega), if_pos (by omega)], by rw [fLa_9, if_neg (by omega), if_neg (by omega), if_pos (by omega)], by rw [fLa_9, if_neg (by omega), if_neg (by omega), if_neg (by omega), if_pos (by omega)]; rfl, fun i hi => by omega, by rw [fLa_84, if_neg (by omega), if_neg (by omega), if_neg (by omega), if_neg (by omega), if_pos rfl], by rw [fLa_84, if_neg (by omega), if_neg (by omega), if_neg (by omega), if_pos rfl], by rw [fLa_84, if_neg (by omega), if_neg (by omega), if_pos rfl]; rfl, fun i hi => ?_⟩
    have ei : i = 0 := by omega
    subst ei
    rw [Nat.add_zero, upL_4 hn, fLa_84, if_neg (by omega), if_pos rfl]
theorem wf_lantern (wf : WF A) (hn : A 248 < 2) (h1 : x < 6) (h2 : y < 120) (h3 : z < 12) : WF (upL A (A 248) x y z) := by
  obtain ⟨w1, w2, w3, ⟨a1, a2⟩, w5, w6, w7, w8⟩ := wf
  refine ⟨wfW_fr (fun j _ => upL_n (by omega) (by omega)) (upL_n (by omega) (by omega)) w1, wfL_fr (fun j _ _ => upL_n (by omega) (by omega)) (upL_n (by omega) (by omega)) w2, wfS_fr (fun j _ _ => upL_n (by omega) (by omega)) (upL_n (by omega) (by omega)) (by rw [upL_n (by omega) (by omega)]; omega) w3, ⟨by rw [upL_m]; omega, fun l hl => ?_⟩, wfE_fr (fun j _ _ => upL_n (by omega) (by omega)) (upL_n (by omega) (by omega)) w5, wfO_fr (fun j _ _ => upL_n (by omega) (by omega)) (upL_n (by omega) (by omega)) (by rw [upL_n (by omega) (by omega)]; omega) w6, wfT_fr (fun j _ _ => upL_n (by omega) (by omega)) w7, wfX_fr (fun j _ _ => upL_n (by omega) (by omega)) w8⟩
  rw [upL_m] at hl
  rcases Nat.lt_or_ge l (A 248) with k | k
  · obtain ⟨v3, v4, v5, v6, v7⟩ := a2 l k
    have e : ∀ j, j < 162 + 19 * A 248 → upL A (A 248) x y z j = A j := fun j hj => upL_n (by omega) (by omega)
    rw [e _ (by omega), e _ (by omega), e _ (by omega)]
    exact ⟨v3, v4, v5, v6, fun i hi => by rw [e _ (by omega)]; exact v7 i hi⟩
  · have el : l = A 248 := by omega
    subst el
    rw [upL_1 hn, upL_2 hn, upL_3 hn]
    refine ⟨h1, h2, by omega, by omega, fun i hi => ?_⟩
    have ei : i = 0 := by omega
    subst ei
    rw [Nat.add_zero, upL_4 hn]
    exact h3
end LA
section RW
variable {TX : ah_T → Nat → (Nat → Nat) → (Nat → Nat) → Nat → Prop} {CC : (Nat → Nat) → ah_T → Prop} {CM : Nat → (Nat → Nat) → ah_T → Prop} {n : Nat}
theorem rel_lantern (hTX : TXp TX) (hCC : CCp CC) (hCM : CMp CM) (a b c : Int32) : lw_RC (Inv TX CC CM (n + 1)) (Inv TX CC CM n) mX11_lantern mX12_lantern [.int a, .int b, .int c] := by
  intro h hI
  have hI' := hI
  obtain ⟨hs, A, B0, B1, d, D, wf, tn, im, sc, tp, dr, cc, cm⟩ := hI'
  refine T_X11_lantern hs a b c ?_
  by_cases c1 : f_X11_isIn a 6 = 0
  · (first | refine ⟨fun _ => ?_, fun n_ => absurd (c1) n_⟩ | refine ⟨fun n_ => absurd (c1) n_, fun _ => ?_⟩ | refine ⟨fun y_ => absurd y_ (c1), fun _ => ?_⟩ | refine ⟨fun _ => ?_, fun y_ => absurd y_ (c1)⟩)
    (refine rl_rf hs why1 (T_X12_lantern (sh_cRf hs) a b c ?_); try simp only [q_corner, q_kind, q_minute, q_two, q_three, q_ten, qf0, qf1, qf2]; (first | refine ⟨fun _ => ?_, fun n_ => absurd (c1) n_⟩ | refine ⟨fun n_ => absurd (c1) n_, fun _ => ?_⟩ | refine ⟨fun y_ => absurd y_ (c1), fun _ => ?_⟩ | refine ⟨fun _ => ?_, fun y_ => absurd y_ (c1)⟩); exact rl_mf hTX hCC hCM hI why1)
  (first | refine ⟨fun _ => ?_, fun n_ => absurd (c1) n_⟩ | refine ⟨fun n_ => absurd (c1) n_, fun _ => ?_⟩ | refine ⟨fun y_ => absurd y_ (c1), fun _ => ?_⟩ | refine ⟨fun _ => ?_, fun y_ => absurd y_ (c1)⟩)
  by_cases c2 : f_X11_isIn b 120 = 0
  · (first | refine ⟨fun _ => ?_, fun n_ => absurd (c2) n_⟩ | refine ⟨fun n_ => absurd (c2) n_, fun _ => ?_⟩ | refine ⟨fun y_ => absurd y_ (c2), fun _ => ?_⟩ | refine ⟨fun _ => ?_, fun y_ => absurd y_ (c2)⟩)
    (refine rl_rf hs why1 (T_X12_lantern (sh_cRf hs) a b c ?_); try simp only [q_corner, q_kind, q_minute, q_two, q_three, q_ten, qf0, qf1, qf2]; (first | refine ⟨fun _ => ?_, fun n_ => absurd (c1) n_⟩ | refine ⟨fun n_ => absurd (c1) n_, fun _ => ?_⟩ | refine ⟨fun y_ => absurd y_ (c1), fun _ => ?_⟩ | refine ⟨fun _ => ?_, fun y_ => absurd y_ (c1)⟩); (first | refine ⟨fun _ => ?_, fun n_ => absurd (c2) n_⟩ | refine ⟨fun n_ => absurd (c2) n_, fun _ => ?_⟩ | refine ⟨fun y_ => absurd y_ (c2), fun _ => ?_⟩ | refine ⟨fun _ => ?_, fun y_ => absurd y_ (c2)⟩); exact rl_mf hTX hCC hCM hI why1)
  (first | refine ⟨fun _ => ?_, fun n_ => absurd (c2) n_⟩ | refine ⟨fun n_ => absurd (c2) n_, fun _ => ?_⟩ | refine ⟨fun y_ => absurd y_ (c2), fun _ => ?_⟩ | refine ⟨fun _ => ?_, fun y_ => absurd y_ (c2)⟩)
  by_cases c3 : f_X11_isIn c 12 = 0
  · (first | refine ⟨fun _ => ?_, fun n_ => absurd (c3) n_⟩ | refine ⟨fun n_ => absurd (c3) n_, fun _ => ?_⟩ | refine ⟨fun y_ => absurd y_ (c3), fun _ => ?_⟩ | refine ⟨fun _ => ?_, fun y_ => absurd y_ (c3)⟩)
    (refine rl_rf hs why1 (T_X12_lantern (sh_cRf hs) a b c ?_); try simp only [q_corner, q_kind, q_minute, q_two, q_three, q_ten, qf0, qf1, qf2]; (first | refine ⟨fun _ => ?_, fun n_ => absurd (c1) n_⟩ | refine ⟨fun n_ => absurd (c1) n_, fun _ => ?_⟩ | refine ⟨fun y_ => absurd y_ (c1), fun _ => ?_⟩ | refine ⟨fun _ => ?_, fun y_ => absurd y_ (c1)⟩); (first | refine ⟨fun _ => ?_, fun n_ => absurd (c2) n_⟩ | refine ⟨fun n_ => absurd (c2) n_, fun _ => ?_⟩ | refine ⟨fun y_ => absurd y_ (c2), fun _ => ?_⟩ | refine ⟨fun _ => ?_, fun y_ => absurd y_ (c2)⟩); (first | refine ⟨fun _ => ?_, fun n_ => absurd (c3) n_⟩ | refine ⟨fun n_ => absurd (c3) n_, fun _ => ?_⟩ | refine ⟨fun y_ => absurd y_ (c3), fun _ => ?_⟩ | refine ⟨fun _ => ?_, fun y_ => absurd y_ (c3)⟩); exact rl_mf hTX hCC hCM hI why1)
  (first | refine ⟨fun _ => ?_, fun n_ => absurd (c3) n_⟩ | refine ⟨fun n_ => absurd (c3) n_, fun _ => ?_⟩ | refine ⟨fun y_ => absurd y_ (c3), fun _ => ?_⟩ | refine ⟨fun _ => ?_, fun y_ => absurd y_ (c3)⟩)
  obtain ⟨a, ha, rfl⟩ := q_isn (n := 6) (by decide) c1
  obtain ⟨b, hb, rfl⟩ := q_isn (n := 120) (by decide) c2
  obtain ⟨c, hc, rfl⟩ := q_isn (n := 12) (by decide) c3
  obtain ⟨p0, p1, p3, p4, p6⟩ := tn.2.2.2.1
  simp only [Nat.zero_add] at p4
  have p5 : A 248 ≤ 2 := wf.2.2.2.1.1
  obtain ⟨k1, k2, k3', k4⟩ := tk hs 8 (by omega)
  refine c_full3 hs (by omega) p0 p3 (by omega) p5 (fun c5 => ?_) (fun c5 => ?_)
  · refine ⟨_, rfl, hs, ?_⟩
    (first | refine ⟨fun _ => ?_, fun n_ => absurd (show ¬ (1 : Int32) = 0 by decide) n_⟩ | refine ⟨fun n_ => absurd (show ¬ (1 : Int32) = 0 by decide) n_, fun _ => ?_⟩ | refine ⟨fun y_ => absurd y_ (show ¬ (1 : Int32) = 0 by decide), fun _ => ?_⟩ | refine ⟨fun _ => ?_, fun y_ => absurd y_ (show ¬ (1 : Int32) = 0 by decide)⟩)
    have k5 : ah_i (cRf h (-5) 3) 84 (Int32.toNatClampNeg 248) = 2 := by rw [cl_248, rf_84 (by decide) (by decide), p4, c5]; rfl
    (refine rl_rf hs why5 (T_X12_lantern (sh_cRf hs) _ _ _ ?_); try simp only [q_corner, q_kind, q_minute, q_two, q_three, q_ten, qf0, qf1, qf2]; (first | refine ⟨fun _ => ?_, fun n_ => absurd (c1) n_⟩ | refine ⟨fun n_ => absurd (c1) n_, fun _ => ?_⟩ | refine ⟨fun y_ => absurd y_ (c1), fun _ => ?_⟩ | refine ⟨fun _ => ?_, fun y_ => absurd y_ (c1)⟩); (first | refine ⟨fun _ => ?_, fun n_ => absurd (c2) n_⟩ | refine ⟨fun n_ => absurd (c2) n_, fun _ => ?_⟩ | refine ⟨fun y_ => absurd y_ (c2), fun _ => ?_⟩ | refine ⟨fun _ => ?_, fun y_ => absurd y_ (c2)⟩); (first | refine ⟨fun _ => ?_, fun n_ => absurd (c3) n_⟩ | refine ⟨fun n_ => absurd (c3) n_, fun _ => ?_⟩ | refine ⟨fun y_ => absurd y_ (c3), fun _ => ?_⟩ | refine ⟨fun _ => ?_, fun y_ => absurd y_ (c3)⟩); (first | refine ⟨fun _ => ?_, fun n_ => absurd (k5) n_⟩ | refine ⟨fun n_ => absurd (k5) n_, fun _ => ?_⟩ | refine ⟨fun y_ => absurd y_ (k5), fun _ => ?_⟩ | refine ⟨fun _ => ?_, fun y_ => absurd y_ (k5)⟩); exact rl_mf hTX hCC hCM hI why5)
  refine ⟨_, rfl, hs, ?_⟩
  (first | refine ⟨fun _ => ?_, fun n_ => absurd (show (0 : Int32) = 0 by rfl) n_⟩ | refine ⟨fun n_ => absurd (show (0 : Int32) = 0 by rfl) n_, fun _ => ?_⟩ | refine ⟨fun y_ => absurd y_ (show (0 : Int32) = 0 by rfl), fun _ => ?_⟩ | refine ⟨fun _ => ?_, fun y_ => absurd y_ (show (0 : Int32) = 0 by rfl)⟩)
  refine c_add hs 8 9 _ _ _ k1 k2 k3' (r := 2) (w := 19) (n := A 248) p0 p1 p3 (by rw [k4]; rfl) (.inr rfl) (by omega) c5 (by omega) ?_
  have hs1 : Sh (cLa h (A 248) a b c) := sh_cLa hs
  refine ⟨_, rfl, hs1, ?_⟩
  refine rl_ch hs1 ?_
  have hs2 := sh_chg hs1
  have e84 : ∀ j, ah_i (chg (cLa h (A 248) a b c)) 84 j = ah_i h 84 j := fun j => by rw [chg_i (by decide), (cLa_eq eqc_rfl (by decide) (by decide) : eqc h (cLa h (A 248) a b c) 84).1]
  refine T_X12_lantern (h := chg (cLa h (A 248) a b c)) hs2 _ _ _ ?_
  simp only [q_kind, q_minute, q_corner]
  (first | refine ⟨fun _ => ?_, fun n_ => absurd (c1) n_⟩ | refine ⟨fun n_ => absurd (c1) n_, fun _ => ?_⟩ | refine ⟨fun y_ => absurd y_ (c1), fun _ => ?_⟩ | refine ⟨fun _ => ?_, fun y_ => absurd y_ (c1)⟩)
  (first | refine ⟨fun _ => ?_, fun n_ => absurd (c2) n_⟩ | refine ⟨fun n_ => absurd (c2) n_, fun _ => ?_⟩ | refine ⟨fun y_ => absurd y_ (c2), fun _ => ?_⟩ | refine ⟨fun _ => ?_, fun y_ => absurd y_ (c2)⟩)
  (first | refine ⟨fun _ => ?_, fun n_ => absurd (c3) n_⟩ | refine ⟨fun n_ => absurd (c3) n_, fun _ => ?_⟩ | refine ⟨fun y_ => absurd y_ (c3), fun _ => ?_⟩ | refine ⟨fun _ => ?_, fun y_ => absurd y_ (c3)⟩)
  rw [cl_248, e84, p4]
  (first | refine ⟨fun _ => ?_, fun n_ => absurd (show ¬ nI (A 248) = 2 by rw [n_2, nI_eq (by omega) (by omega)]; omega) n_⟩ | refine ⟨fun n_ => absurd (show ¬ nI (A 248) = 2 by rw [n_2, nI_eq (by omega) (by omega)]; omega) n_, fun _ => ?_⟩ | refine ⟨fun y_ => absurd y_ (show ¬ nI (A 248) = 2 by rw [n_2, nI_eq (by omega) (by omega)]; omega), fun _ => ?_⟩ | refine ⟨fun _ => ?_, fun y_ => absurd y_ (show ¬ nI (A 248) = 2 by rw [n_2, nI_eq (by omega) (by omega)]; omega)⟩)
  have f1 : 162 + 19 * nI (A 248) = nI (162 + 19 * A 248) := by grind
  have f2 : nI (162 + 19 * A 248) + 1 = nI (163 + 19 * A 248) := by rw [nI_1]; congr 1; omega
  have f3 : nI (162 + 19 * A 248) + 2 = nI (164 + 19 * A 248) := by rw [n_2, nI_add]; congr 1; omega
  have f4 : nI (162 + 19 * A 248) + 3 = nI (165 + 19 * A 248) := by rw [n_3, nI_add]; congr 1; omega
  have vi : ∀ k, k < 5860 → vp_in (nI k) 5860 := fun k hk => (vp_nI (by omega)).mpr hk
  have hn84 := n84 hs2
  rw [f1, f2, f3, f4, nI_clamp (by omega), nI_clamp (by omega), nI_clamp (by omega), nI_clamp (by omega)]
  refine ⟨by rw [hn84]; exact vi _ (by omega), ?_⟩
  rintro h12 rfl
  refine ⟨by rw [ah_n_si, hn84]; exact vi _ (by omega), ?_⟩
  rintro h16 rfl
  refine ⟨by rw [ah_n_si, ah_n_si, hn84]; exact vi _ (by omega), ?_⟩
  rintro h20 rfl
  refine ⟨by rw [ah_n_si, ah_n_si, ah_n_si, hn84]; exact vi _ (by omega), ?_⟩
  rintro h24 rfl
  rw [ah_i_sn (by omega), ah_i_sn (by omega), ah_i_sn (by omega), ah_i_sn (by omega), e84, p4, nI_1]
  rintro h27 rfl
  have hs3 : Sh (mLa (chg (cLa h (A 248) a b c)) (A 248) a b c) := sh_mLa hs2
  refine rl_go hs3 rfl ?_
  show Inv TX CC CM n (fLa h (A 248) a b c)
  refine inv_told hTX hCC hCM (sh_god hs3) im sc tp dr cc cm (A' := upL A (A 248) a b c) (wf_lantern wf c5 ha hb hc) ?_ tl_La (.inr ⟨fLa_18, fun j hj => upL_n (by omega) (by omega), upL_n (by omega) (by omega), upL_n (by omega) (by omega)⟩)
  have o : ot (fun a => a = 8 ∨ a = 9) (fun j => j = 248 ∨ (162 ≤ j ∧ j < 200)) A (upL A (A 248) a b c) h (fLa h (A 248) a b c) :=
    ⟨fun i h1 h2 h3 => fLa_eq (by omega) (by omega) (by omega) (by omega) (by omega), fun i h1 => fLa_eq (by omega) (by omega) (by omega) (by omega) (by omega), by rw [x_god, x_mLa, x_chg, x_cLa], fun j hj hJ => ⟨by rw [fLa_84, if_neg (by omega), if_neg (by omega), if_neg (by omega), if_neg (by omega), if_neg (by omega)], upL_n (by omega) (by omega)⟩⟩
  obtain ⟨q1, q2, q3, q4, q5, q6, q7, q8⟩ := tn
  exact ⟨ot_3 o (by omega) (by omega) (by omega) (by omega) (by omega) (by omega) (fun j hj => by omega) q1,
    ot_3 o (by omega) (by omega) (by omega) (by omega) (by omega) (by omega) (fun j hj => by omega) q2,
    ot_3 o (by omega) (by omega) (by omega) (by omega) (by omega) (by omega) (fun j hj => by omega) q3,
    cpL_add c5 wf.2.2.2.1 q4,
    ot_3 o (by omega) (by omega) (by omega) (by omega) (by omega) (by omega) (fun j hj => by omega) q5,
    ot_3 o (by omega) (by omega) (by omega) (by omega) (by omega) (by omega) (fun j hj => by omega) q6,
    ot_T o (by omega) (fun j hj => by omega) q7,
    ot_W o hTX wf.2.2.2.2.2.2.2 (by omega) (by omega) (fun j hj => by omega) q8⟩
end RW
