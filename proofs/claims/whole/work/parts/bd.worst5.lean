section WR5
variable {KX : ah_T → Prop} {RX WX SX : (Nat → Nat) → ah_T → Prop} {A : Nat → Nat} {h g h1 : ah_T} {g0 sp n k m c r : Nat}
theorem rel_worst (X : XP KX RX WX) (hW : hWp KX RX) (hS : SXp SX) (K : KRp KX RX) (W : Wp1 WX woX Cwo) (x1 x2 x3 x4 x5 : Int32) : lw_RC (Inv TXm (CCg KX RX WX) (CMg SX) (n + 1)) (Inv TXm (CCg KX RX WX) (CMg SX) n) mX11_worst mX12_worst [.int x1, .int x2, .int x3, .int x4, .int x5] := by
  intro h hI
  obtain ⟨hs, A, p⟩ := pre_of hI
  have h10 := (mQs_p p).2.2.1.2.2.2.1.1
  have bad : ∀ u, (ab_qi fun w h2 => -1 = w ∧ Inv TXm (CCg KX RX WX) (CMg SX) n h2) (some (.int (-1))) h ∧ u = () := fun u => ⟨⟨_, rfl, rfl, inv_less hs p⟩, rfl⟩
  have done : (ab_qi fun w h2 => -1 = w ∧ Inv TXm (CCg KX RX WX) (CMg SX) n h2) (some (.int (-1))) h := (bad ()).1
  have no : (f_X11_isIn x1 6 = 0 ∨ f_X11_isIn x2 120 = 0 ∨ f_X11_isIn x3 12 = 0 ∨ f_X11_isIn x4 4 = 0 ∨ f_X12_lies x5 (-1) (x4 - 1) = 0) → Mt mX12_worst [.ref 82, .int x1, .int x2, .int x3, .int x4, .int x5] h (ab_qi fun w h2 => -1 = w ∧ Inv TXm (CCg KX RX WX) (CMg SX) n h2) := by
    intro o
    refine T_X12_worst hs _ _ _ _ _ ?_
    simp only [q_kind, q_minute, q_corner, q_four]
    refine ⟨fun _ => done, fun y1 => ⟨fun _ => done, fun y2 => ⟨fun _ => done, fun y3 => ⟨fun _ => done, fun y4 => ⟨fun y5 => ?_, fun _ => done⟩⟩⟩⟩⟩
    rcases o with z | z | z | z | z
    · exact absurd z y1
    · exact absurd z y2
    · exact absurd z y3
    · exact absurd z y4
    · exact absurd z y5
  refine T_X11_worst hs _ _ _ _ _ ⟨fun y => ⟨_, rfl, hs, no (.inl y)⟩, fun y1 => ⟨fun y => ⟨_, rfl, hs, no (.inr (.inl y))⟩, fun y2 => ⟨fun y => ⟨_, rfl, hs, no (.inr (.inr (.inl y)))⟩, fun y3 => ⟨fun y => ⟨_, rfl, hs, no (.inr (.inr (.inr (.inl y))))⟩, fun y4 => ?_⟩⟩⟩⟩
  obtain ⟨k, hk, rfl⟩ := q_isn (n := 6) (by decide) y1
  obtain ⟨m, hm, rfl⟩ := q_isn (n := 120) (by decide) y2
  obtain ⟨c, hc, rfl⟩ := q_isn (n := 12) (by decide) y3
  obtain ⟨N, hN, rfl⟩ := q_isn (n := 4) (by decide) y4
  have hN3 : N ≤ 3 := by omega
  have qi := q_i (n := N) x5 hN3
  refine ⟨fun y => ⟨_, rfl, hs, no (.inr (.inr (.inr (.inr (qi.mpr (.inl y))))))⟩, fun y5 => ⟨fun y6 => ?_, fun y => ⟨_, rfl, hs, no (.inr (.inr (.inr (.inr (qi.mpr (.inr y))))))⟩⟩⟩
  have yes : ¬ f_X12_lies x5 (-1) (nI N - 1) = 0 := fun y => (qi.mp y).elim (fun z => y5 z) (fun z => z y6)
  refine lk1 hs X hS p (fun h6 g' s6 p6 lk6 pq => ?_)
  refine c_findWorst s6 lk6.1.1 lk6.1.2.1 lk6.1.2.2.1 lk6.1.2.2.2.1.1 (W.1 _ _ lk6.2.2.2.2.1) hk hm hc hN3 rfl rfl rfl rfl (fun g f t d e62 ek er => ⟨rfl, f.1, ?_⟩)
  have hP : ∀ a, Pwo a → 60 < a ∧ a < 82 := fun a y => by unfold Pwo at y; omega
  have ei : ∀ a, 53 < a → ¬ Pwo a → ∀ j, ah_i g a j = ah_i h6 a j := fun a n1 n2 => (f.2.2.1 a (by omega) n2).1
  have lg := lkO_g K W hP f t d (fun a j w c => by
    by_cases z : a = 62
    · subst z
      exact e62 j (fun y => c (.inl ⟨rfl, y⟩))
    · have hp : ¬ Pwo a := by
        rintro (y | y | y | y)
        · exact z y
        · exact c (.inr (.inl y))
        · exact c (.inr (.inr y))
        · unfold wxc Cwk Cst Ccg Cli Cwo Chg Cpc at w; omega
      have hr : 53 < a := by
        unfold wxc Cwk Cst Ccg Cli Cwo Chg Cpc at w
        omega
      exact ei a hr hp j) (fun j _ => ⟨ei 63 (by omega) (by unfold Pwo; omega) j, ei 65 (by omega) (by unfold Pwo; omega) j⟩) (.inr ⟨k, m, c, N, hk, hm, hc, hN3, ek, er⟩) lk6
  have pg := pq g (loF_gr hP f) lg
  have fin := woF_fin (A := A) (k := k) (m := m) h10 hc hN3
  have fle := (woF_le (A := A) (k := k) (m := m) (c := c) (n := N) (pw N)).1
  rw [sh_n f.1 69 3 (by decide) (by decide) rfl]
  -- the model
  have mod : ∀ (J : Option Value → ah_T → Prop), (∀ v, tyO A g v → woM A k m c N (pw N) v → (¬ x5 = -1 → vp_in x5 3 ∧ J (some (.int (ah_i v 116 x5.toNatClampNeg))) v) ∧ (x5 = -1 → J (some (.int (ah_i v 82 55))) v)) → Mt mX12_worst [.ref 82, .int (nI k), .int (nI m), .int (nI c), .int (nI N), .int x5] g J := by
    intro J hJ
    refine T_X12_worst f.1 _ _ _ _ _ ?_
    simp only [q_kind, q_minute, q_corner, q_four]
    (first | refine ⟨fun _ => ?_, fun n_ => absurd (y1) n_⟩ | refine ⟨fun n_ => absurd (y1) n_, fun _ => ?_⟩ | refine ⟨fun y_ => absurd y_ (y1), fun _ => ?_⟩ | refine ⟨fun _ => ?_, fun y_ => absurd y_ (y1)⟩)
    (first | refine ⟨fun _ => ?_, fun n_ => absurd (y2) n_⟩ | refine ⟨fun n_ => absurd (y2) n_, fun _ => ?_⟩ | refine ⟨fun y_ => absurd y_ (y2), fun _ => ?_⟩ | refine ⟨fun _ => ?_, fun y_ => absurd y_ (y2)⟩)
    (first | refine ⟨fun _ => ?_, fun n_ => absurd (y3) n_⟩ | refine ⟨fun n_ => absurd (y3) n_, fun _ => ?_⟩ | refine ⟨fun y_ => absurd y_ (y3), fun _ => ?_⟩ | refine ⟨fun _ => ?_, fun y_ => absurd y_ (y3)⟩)
    (first | refine ⟨fun _ => ?_, fun n_ => absurd (y4) n_⟩ | refine ⟨fun n_ => absurd (y4) n_, fun _ => ?_⟩ | refine ⟨fun y_ => absurd y_ (y4), fun _ => ?_⟩ | refine ⟨fun _ => ?_, fun y_ => absurd y_ (y4)⟩)
    (first | refine ⟨fun _ => ?_, fun n_ => absurd (yes) n_⟩ | refine ⟨fun n_ => absurd (yes) n_, fun _ => ?_⟩ | refine ⟨fun y_ => absurd y_ (yes), fun _ => ?_⟩ | refine ⟨fun _ => ?_, fun y_ => absurd y_ (yes)⟩)
    intro h6' q6
    have st := m_worst (A := A) (g := g) (x5 := x5) h10 hk hm hc hN3 hJ (pw N) 0 h6' (by omega) (by rw [q6]; exact tyO_5 (by omega) (tyO_0 f.1 pg)) ⟨fun _ => by rw [q6, ah_i_ss], fun y => absurd y (by show ¬ 1201 < 1201; omega)⟩
    have c4 : N = 0 ∨ N = 1 ∨ N = 2 ∨ N = 3 := by omega
    rcases c4 with y | y | y | y
    · subst y
      (first | refine ⟨fun _ => ?_, fun n_ => absurd (show nI 0 = 0 from rfl) n_⟩ | refine ⟨fun n_ => absurd (show nI 0 = 0 from rfl) n_, fun _ => ?_⟩ | refine ⟨fun y_ => absurd y_ (show nI 0 = 0 from rfl), fun _ => ?_⟩ | refine ⟨fun _ => ?_, fun y_ => absurd y_ (show nI 0 = 0 from rfl)⟩)
      exact st
    · subst y
      (first | refine ⟨fun _ => ?_, fun n_ => absurd (show ¬ nI 1 = 0 by decide) n_⟩ | refine ⟨fun n_ => absurd (show ¬ nI 1 = 0 by decide) n_, fun _ => ?_⟩ | refine ⟨fun y_ => absurd y_ (show ¬ nI 1 = 0 by decide), fun _ => ?_⟩ | refine ⟨fun _ => ?_, fun y_ => absurd y_ (show ¬ nI 1 = 0 by decide)⟩)
      (first | refine ⟨fun _ => ?_, fun n_ => absurd (show nI 1 = 1 from rfl) n_⟩ | refine ⟨fun n_ => absurd (show nI 1 = 1 from rfl) n_, fun _ => ?_⟩ | refine ⟨fun y_ => absurd y_ (show nI 1 = 1 from rfl), fun _ => ?_⟩ | refine ⟨fun _ => ?_, fun y_ => absurd y_ (show nI 1 = 1 from rfl)⟩)
      exact st
    · subst y
      (first | refine ⟨fun _ => ?_, fun n_ => absurd (show ¬ nI 2 = 0 by decide) n_⟩ | refine ⟨fun n_ => absurd (show ¬ nI 2 = 0 by decide) n_, fun _ => ?_⟩ | refine ⟨fun y_ => absurd y_ (show ¬ nI 2 = 0 by decide), fun _ => ?_⟩ | refine ⟨fun _ => ?_, fun y_ => absurd y_ (show ¬ nI 2 = 0 by decide)⟩)
      (first | refine ⟨fun _ => ?_, fun n_ => absurd (show ¬ nI 2 = 1 by decide) n_⟩ | refine ⟨fun n_ => absurd (show ¬ nI 2 = 1 by decide) n_, fun _ => ?_⟩ | refine ⟨fun y_ => absurd y_ (show ¬ nI 2 = 1 by decide), fun _ => ?_⟩ | refine ⟨fun _ => ?_, fun y_ => absurd y_ (show ¬ nI 2 = 1 by decide)⟩)
      (first | refine ⟨fun _ => ?_, fun n_ => absurd (show nI 2 = 2 from rfl) n_⟩ | refine ⟨fun n_ => absurd (show nI 2 = 2 from rfl) n_, fun _ => ?_⟩ | refine ⟨fun y_ => absurd y_ (show nI 2 = 2 from rfl), fun _ => ?_⟩ | refine ⟨fun _ => ?_, fun y_ => absurd y_ (show nI 2 = 2 from rfl)⟩)
      exact st
    · subst y
      (first | refine ⟨fun _ => ?_, fun n_ => absurd (show ¬ nI 3 = 0 by decide) n_⟩ | refine ⟨fun n_ => absurd (show ¬ nI 3 = 0 by decide) n_, fun _ => ?_⟩ | refine ⟨fun y_ => absurd y_ (show ¬ nI 3 = 0 by decide), fun _ => ?_⟩ | refine ⟨fun _ => ?_, fun y_ => absurd y_ (show ¬ nI 3 = 0 by decide)⟩)
      (first | refine ⟨fun _ => ?_, fun n_ => absurd (show ¬ nI 3 = 1 by decide) n_⟩ | refine ⟨fun n_ => absurd (show ¬ nI 3 = 1 by decide) n_, fun _ => ?_⟩ | refine ⟨fun y_ => absurd y_ (show ¬ nI 3 = 1 by decide), fun _ => ?_⟩ | refine ⟨fun _ => ?_, fun y_ => absurd y_ (show ¬ nI 3 = 1 by decide)⟩)
      (first | refine ⟨fun _ => ?_, fun n_ => absurd (show ¬ nI 3 = 2 by decide) n_⟩ | refine ⟨fun n_ => absurd (show ¬ nI 3 = 2 by decide) n_, fun _ => ?_⟩ | refine ⟨fun y_ => absurd y_ (show ¬ nI 3 = 2 by decide), fun _ => ?_⟩ | refine ⟨fun _ => ?_, fun y_ => absurd y_ (show ¬ nI 3 = 2 by decide)⟩)
      exact st
  refine ⟨fun z => ?_, fun z => ⟨_, rfl, f.1, mod _ (fun v tv wv => ⟨fun y => absurd z y, fun _ => ⟨_, rfl, ?_, inv_to X hW hS pg tv⟩⟩)⟩⟩
  · have x0 : ¬ x5 < 0 := by
      intro y
      have a := Int32.lt_iff_toInt_lt.mp y
      have b : ¬ x5.toInt < (-1 : Int32).toInt := fun w => y5 (Int32.lt_iff_toInt_lt.mpr w)
      have e0 : (0 : Int32).toInt = 0 := rfl
      have e1 : (-1 : Int32).toInt = -1 := by decide
      rw [e0] at a
      rw [e1] at b
      exact z (Int32.toInt_inj.mp (by rw [e1]; omega))
    obtain ⟨i, hi, rfl⟩ := nI_ltO x0 y6 (by omega)
    have v3 : vp_in (nI i) 3 := (vp_nI (by omega)).mpr (by omega)
    refine ⟨v3, _, rfl, f.1, mod _ (fun v tv wv => ⟨fun _ => ⟨v3, _, rfl, ?_, inv_to X hW hS pg tv⟩, fun y => absurd y z⟩)⟩
    rw [nI_clamp (show i < 2 ^ 31 by omega), er.2 fin i hi, (wv.2 fin).2 i hi]
  · rw [er.1, (wv.2 fin).1]
end WR5
