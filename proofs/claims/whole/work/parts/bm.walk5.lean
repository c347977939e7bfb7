/-! ===== walk on both sides (draft, never compiled) ===== -/
section WK5
variable {KX : ah_T → Prop} {RX WX SX : (Nat → Nat) → ah_T → Prop} {A : Nat → Nat} {h g h1 u w : ah_T} {g0 n c f m t e d l : Nat} {b : Bool}
theorem lkO_k (K : KRp KX RX) (W : Wp1 WX wkX Cwk) (fw : wkF h g) (lt : lgt g0 A g) (wx : wkX A g) (l : lkO KX RX WX g0 A h) : lkO KX RX WX g0 A g := by
  obtain ⟨_, o, k, r, wq, f18, f19⟩ := l
  have ei : ∀ a, (a < 26 ∨ (28 < a ∧ a < 35) ∨ (35 < a ∧ a < 39) ∨ 61 < a) → eqc h g a := fw.2.2.1
  have kr : krF h g := ⟨Nat.le_of_eq fw.2.1.symm, fun a n => ei a (by omega), fun j _ => ⟨(ei 63 (by omega)).1 j, (ei 65 (by omega)).1 j⟩⟩
  refine ⟨lt.1, .inr ⟨lt.2.1, lt.2.2.1, lt.2.2.2⟩, K.1 _ _ kr k, K.2 _ _ _ kr k r, W.2 _ _ _ (fun a j w c => ?_) wq wx, by rw [(ei 0 (by omega)).1]; exact f18, by rw [(ei 0 (by omega)).1]; exact f19⟩
  have hr : 61 < a := by
    unfold wxc Cwk Cst Ccg Cli Cwo Chg Cpc at w
    unfold Cwk at c
    omega
  exact (ei a (by omega)).1 j
theorem loF_wk (fw : wkF h g) : loF h g := ⟨fw.1, fw.2.1, fun a n => fw.2.2.1 a (by omega), fun j _ _ => (fw.2.2.1 0 (by omega)).1 j⟩
theorem rel_walk (X : XP KX RX WX) (hW : hWp KX RX) (hS : SXp SX) (K : KRp KX RX) (W : Wp1 WX wkX Cwk) (x1 x2 x3 x4 x5 : Int32) : lw_RC (Inv TXm (CCg KX RX WX) (CMg SX) (n + 1)) (Inv TXm (CCg KX RX WX) (CMg SX) n) mX11_walk mX12_walk [.int x1, .int x2, .int x3, .int x4, .int x5] := by
  intro h hI
  obtain ⟨hs, A, p⟩ := pre_of hI
  have done : (ab_qi fun w h2 => -1 = w ∧ Inv TXm (CCg KX RX WX) (CMg SX) n h2) (some (.int (-1))) h := ⟨_, rfl, rfl, inv_less hs p⟩
  have no : (f_X11_isIn x1 12 = 0 ∨ f_X11_isIn x2 120 = 0 ∨ f_X11_isIn x3 12 = 0 ∨ f_X11_isIn x4 2 = 0 ∨ ¬ -1 ≤ x5) → Mt mX12_walk [.ref 82, .int x1, .int x2, .int x3, .int x4, .int x5] h (ab_qi fun w h2 => -1 = w ∧ Inv TXm (CCg KX RX WX) (CMg SX) n h2) := by
    intro o
    refine T_X12_walk hs _ _ _ _ _ ?_
    simp only [q_minute, q_corner, q_two]
    refine ⟨fun _ => done, fun y1 => ⟨fun _ => done, fun y2 => ⟨fun _ => done, fun y3 => ⟨fun _ => done, fun y4 => ⟨fun y5 => ?_, fun _ => done⟩⟩⟩⟩⟩
    rcases o with z | z | z | z | z
    · exact absurd z y1
    · exact absurd z y2
    · exact absurd z y3
    · exact absurd z y4
    · exact absurd y5 z
  refine T_X11_walk hs _ _ _ _ _ ⟨fun y => ⟨_, rfl, hs, no (.inl y)⟩, fun y1 => ⟨fun y => ⟨_, rfl, hs, no (.inr (.inl y))⟩, fun y2 => ⟨fun y => ⟨_, rfl, hs, no (.inr (.inr (.inl y)))⟩, fun y3 => ⟨fun y => ⟨_, rfl, hs, no (.inr (.inr (.inr (.inl y))))⟩, fun y4 => ⟨fun y5 => ?_, fun y => ⟨_, rfl, hs, no (.inr (.inr (.inr (.inr y))))⟩⟩⟩⟩⟩⟩
  obtain ⟨f, hf, rfl⟩ := q_isn (n := 12) (by decide) y1
  obtain ⟨m, hm, rfl⟩ := q_isn (n := 120) (by decide) y2
  obtain ⟨t, ht, rfl⟩ := q_isn (n := 12) (by decide) y3
  obtain ⟨l, hl, rfl⟩ := q_isn (n := 2) (by decide) y4
  refine lr hs X hS p (fun h6 g' s6 p6 lk6 i9 r6 l6 pq => ?_)
  refine c_findWalk s6 ⟨lk6.1, i9, r6, l6⟩ (W.1 _ _ lk6.2.2.2.2.1) hf hm ht hl rfl rfl rfl rfl (fun g fw lt ek er => ⟨rfl, fw.1, ?_⟩)
  have lg := lkO_k K W fw lt (.inr ⟨f, m, t, l, hf, hm, ht, hl, ek, er⟩) lk6
  have pg := pq g (loF_wk fw) lg
  have mod : ∀ v, wvR A (decide (l = 1)) f m t x5 v → Mt mX12_walk [.ref 82, .int (nI f), .int (nI m), .int (nI t), .int (nI l), .int x5] g (ab_qi fun w h2 => v = w ∧ Inv TXm (CCg KX RX WX) (CMg SX) n h2) := by
    intro v rv
    refine T_X12_walk fw.1 _ _ _ _ _ ?_
    simp only [q_minute, q_corner, q_two]
    (first | refine ⟨fun _ => ?_, fun n_ => absurd (y1) n_⟩ | refine ⟨fun n_ => absurd (y1) n_, fun _ => ?_⟩ | refine ⟨fun y_ => absurd y_ (y1), fun _ => ?_⟩ | refine ⟨fun _ => ?_, fun y_ => absurd y_ (y1)⟩)
    (first | refine ⟨fun _ => ?_, fun n_ => absurd (y2) n_⟩ | refine ⟨fun n_ => absurd (y2) n_, fun _ => ?_⟩ | refine ⟨fun y_ => absurd y_ (y2), fun _ => ?_⟩ | refine ⟨fun _ => ?_, fun y_ => absurd y_ (y2)⟩)
    (first | refine ⟨fun _ => ?_, fun n_ => absurd (y3) n_⟩ | refine ⟨fun n_ => absurd (y3) n_, fun _ => ?_⟩ | refine ⟨fun y_ => absurd y_ (y3), fun _ => ?_⟩ | refine ⟨fun _ => ?_, fun y_ => absurd y_ (y3)⟩)
    (first | refine ⟨fun _ => ?_, fun n_ => absurd (y4) n_⟩ | refine ⟨fun n_ => absurd (y4) n_, fun _ => ?_⟩ | refine ⟨fun y_ => absurd y_ (y4), fun _ => ?_⟩ | refine ⟨fun _ => ?_, fun y_ => absurd y_ (y4)⟩)
    (first | refine ⟨fun _ => ?_, fun n_ => absurd (y5) n_⟩ | refine ⟨fun n_ => absurd (y5) n_, fun _ => ?_⟩ | refine ⟨fun y_ => absurd y_ (y5), fun _ => ?_⟩ | refine ⟨fun _ => ?_, fun y_ => absurd y_ (y5)⟩)
    refine m_laysNight fw.1 (mQs_p pg) pg.2.2.2.2.2.2.1 (fun h8 f8 b8 nt e49 => ⟨rfl, f8.1, ?_⟩)
    exact m_walk (b := decide (l = 1)) (mQs_p pg).2.2.1.1 hf hm ht hl rfl y5 ⟨mdF_ly f8, b8, nt, by rw [e49, f8.2.2.2 1 (by omega)]⟩ (fun u v' nu rv' => ⟨_, rfl, wvR_u rv rv', inv_nw X hW hS pg nu⟩)
  -- the class's answer
  rcases er with ⟨nE, e3⟩ | ⟨e, w, e3, row⟩
  · rw [e3]
    exact ⟨fun _ => ⟨_, rfl, fw.1, mod _ (.inl ⟨nE, rfl⟩)⟩, fun _ => ⟨fun z => absurd rfl z, fun _ => ⟨_, rfl, fw.1, mod _ (.inl ⟨nE, rfl⟩)⟩⟩⟩
  · have w120 := w.1
    rw [e3, nI_sub (show m ≤ m + e by omega), show m + e - m = e by omega]
    refine ⟨fun z => ⟨_, rfl, fw.1, mod _ (.inr ⟨e, w, .inl ⟨z, rfl⟩⟩)⟩, fun z => ⟨fun _ => ?_, fun y => absurd y (nI_m1 (by omega))⟩⟩
    have x0 : ¬ x5 < 0 := by
      intro y
      have a := Int32.lt_iff_toInt_lt.mp y
      have b := Int32.le_iff_toInt_le.mp y5
      have e0 : (0 : Int32).toInt = 0 := rfl
      have e1 : (-1 : Int32).toInt = -1 := by decide
      rw [e0] at a
      rw [e1] at b
      exact z (Int32.toInt_inj.mp (by rw [e1]; omega))
    obtain ⟨i, i31, rfl⟩ := nI_of3 x0
    refine ⟨fun y => ?_, fun y => ?_⟩
    · have ie : i ≤ e := by
        rcases Nat.lt_or_ge e i with q | q
        · exact absurd y (nI_ge q i31)
        · exact q
      rw [nI_add, nI_clamp (show m + i < 2 ^ 31 by omega), sh_n fw.1 58 120 (by decide) (by decide) rfl, row i ie]
      exact ⟨(vp_nI (by omega)).mpr (by omega), _, rfl, fw.1, mod _ (.inr ⟨e, w, .inr ⟨i, i31, rfl, .inl ⟨ie, rfl⟩⟩⟩)⟩
    · have ie : e < i := by
        rcases Nat.lt_or_ge e i with q | q
        · exact q
        · exact absurd (nI_le q (by omega)) y
      exact ⟨_, rfl, fw.1, mod _ (.inr ⟨e, w, .inr ⟨i, i31, rfl, .inr ⟨ie, rfl⟩⟩⟩)⟩
end WK5
