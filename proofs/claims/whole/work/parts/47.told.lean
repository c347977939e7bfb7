/-! ===== something is told ===== -/
/-- what may change where something is told: the town's own cells, marks; all else stands -/
def tl (h h2 : ah_T) : Prop := ah_x h2 = ah_x h ∧ (∀ a, 15 < a → a ≠ 82 → a ≠ 84 → eqc h h2 a) ∧ (∀ j, j ≠ 17 → j ≠ 18 → j ≠ 19 → ah_i h2 0 j = ah_i h 0 j) ∧ (∀ j, j ≠ 0 → j ≠ 1 → ah_i h2 82 j = ah_i h 82 j) ∧ ah_i h2 0 19 = 1 ∧ ah_i h2 82 1 = ah_i h 82 1 + 1 ∧ ah_i h2 0 17 = ah_i h2 82 0
def rb (A A' : Nat → Nat) (h h2 : ah_T) : Prop := ah_i h2 0 18 = 1 ∨ (ah_i h2 0 18 = ah_i h 0 18 ∧ (∀ j, j < 90 → A' j = A j) ∧ A' 245 = A 245 ∧ A' 246 = A 246)
section TO
variable {TX : ah_T → Nat → (Nat → Nat) → (Nat → Nat) → Nat → Prop} {CC : (Nat → Nat) → ah_T → Prop} {CM : Nat → (Nat → Nat) → ah_T → Prop} {A A' B0 B1 : Nat → Nat} {h h2 : ah_T} {n d : Nat} {D : Nat → Nat}
theorem Sc_tl (t : tl h h2) (s : Sc h) : Sc h2 := by
  obtain ⟨t1, t2, t3, t4, t5, t6, t7⟩ := t
  obtain ⟨s1, s2, s3, s4, s5, s6, s7, s8, s9⟩ := s
  have e := (t2 18 (by decide) (by decide) (by decide)).1
  have f := (t2 83 (by decide) (by decide) (by decide)).1
  exact ⟨t7, by rw [e, f]; exact s2, by rw [e, f]; exact s3, by rw [e, f]; exact s4, by rw [e, f]; exact s5, by rw [e, f]; exact s6, by rw [t3 15 (by decide) (by decide) (by decide), t4 6 (by decide) (by decide)]; exact s7, by rw [t3 14 (by decide) (by decide) (by decide), t4 12 (by decide) (by decide)]; exact s8, by rw [t3 16 (by decide) (by decide) (by decide), t4 66 (by decide) (by decide)]; exact s9⟩
theorem Tp_tl (t : tl h h2) (s : Tp d D h) : Tp d D h2 := by
  obtain ⟨t1, t2, t3, t4, t5, t6, t7⟩ := t
  obtain ⟨s1, s2, s3, s4⟩ := s
  refine ⟨s1, by rw [t3 13 (by decide) (by decide) (by decide)]; exact s2, by rw [t4 11 (by decide) (by decide)]; exact s3, fun j hj => ?_⟩
  rw [(t2 17 (by decide) (by decide) (by decide)).1, (t2 88 (by decide) (by decide) (by decide)).1]
  exact s4 j hj
theorem Dr_tl (t : tl h h2) (s : Dr h) : Dr h2 := by
  obtain ⟨t1, t2, t3, t4, t5, t6, t7⟩ := t
  unfold Dr
  rw [t4 77 (by decide) (by decide), (t2 19 (by decide) (by decide) (by decide)).1]
  rcases s with s | s
  · exact .inl s
  · refine .inr ⟨s.1, fun j hj => ?_⟩
    rw [(t2 19 (by decide) (by decide) (by decide)).1, (t2 122 (by decide) (by decide) (by decide)).1]
    exact s.2 j hj
theorem CC_tl (hCC : CCp CC) (t : tl h h2) (r : rb A A' h h2) (c : CC A h) : CC A' h2 := by
  obtain ⟨t1, t2, t3, t4, t5, t6, t7⟩ := t
  have g : agC h h2 := agC_of (fun a h1 h2 => t2 a (by omega) (by omega) (by omega)) (fun a h1 h2 => t2 a (by omega) (by omega) (by omega)) (by omega)
  rcases r with r | r
  · exact hCC.2.1 _ _ _ _ c g r t5
  · exact hCC.2.2 _ _ _ _ c g r.1 t5 r.2.1 r.2.2.1 r.2.2.2
theorem CM_tl (hCM : CMp CM) (t : tl h h2) (c : CM (n + 1) A h) : CM n A' h2 := by
  obtain ⟨t1, t2, t3, t4, t5, t6, t7⟩ := t
  exact hCM.2.2 _ _ _ _ _ c ⟨fun a ha => t2 a (by omega) (by omega) (by omega), fun j hj => t4 j (by omega) (by omega)⟩ t6
theorem inv_told (hTX : TXp TX) (hCC : CCp CC) (hCM : CMp CM) (hs2 : Sh h2) (i3 : Im TX B0 B1 h) (i4 : Sc h) (i5 : Tp d D h) (i6 : Dr h) (i7 : CC A h) (i8 : CM (n + 1) A h) (w : WF A') (tn : Tn TX A' h2 1 84 0) (t : tl h h2) (r : rb A A' h h2) : Inv TX CC CM n h2 :=
  ⟨hs2, A', B0, B1, d, D, w, tn, Im_fr hTX (fun a h1 h2 => t.2.1 a (by omega) (by omega) (by omega)) (t.2.1 16 (by decide) (by decide) (by decide)) (t.2.1 85 (by decide) (by decide) (by decide)) (t.2.1 86 (by decide) (by decide) (by decide)) (by have := t.1; omega) i3, Sc_tl t i4, Tp_tl t i5, Dr_tl t i6, CC_tl hCC t r i7, CM_tl hCM t i8⟩
end TO
/-! ## what a table of three columns gets behind it -/
def up4 (A : Nat → Nat) (b m x y z : Nat) : Nat → Nat := up (up (up (up A (b + 3 * A m) x) (b + (3 * A m + 1)) y) (b + (3 * A m + 2)) z) m (A m + 1)
/-- the class adds a row of three -/
def cAdd (h : ah_T) (t n : Nat) (x y z : Int32) : ah_T := ah_si (ah_si (ah_si (ah_si (ab_fl h (t + 1) (n * 3) (n * 3 + 3) 0) (t + 1) (n * 3) x) (t + 1) (n * 3 + 1) y) (t + 1) (n * 3 + 2) z) t 3 (nI (n + 1))
def mAdd (h : ah_T) (b m n : Nat) (x y z : Int32) : ah_T := ah_si (ah_si (ah_si (ah_si h 84 (b + 3 * n) x) 84 (b + (3 * n + 1)) y) 84 (b + (3 * n + 2)) z) 84 m (nI (n + 1))
section AD
variable {TX : ah_T → Nat → (Nat → Nat) → (Nat → Nat) → Nat → Prop} {A A' : Nat → Nat} {h h2 : ah_T} {t c room many base x y z : Nat}
theorem up4_n {j : Nat} (h1 : j ≠ many) (h2 : j < base + 3 * A many ∨ base + 3 * A many + 2 < j) : up4 A base many x y z j = A j := by
  unfold up4
  rw [up_n h1, up_n (by omega), up_n (by omega), up_n (by omega)]
theorem up4_m : up4 A base many x y z many = A many + 1 := up_s _ _ _
theorem up4_1 (hb : base + 3 * A many + 2 < many) : up4 A base many x y z (base + 3 * A many) = x := by
  unfold up4
  rw [up_n (by omega), up_n (by omega), up_n (by omega), up_s]
theorem up4_2 (hb : base + 3 * A many + 2 < many) : up4 A base many x y z (base + (3 * A many + 1)) = y := by
  unfold up4
  rw [up_n (by omega), up_n (by omega), up_s]
theorem up4_3 (hb : base + 3 * A many + 2 < many) : up4 A base many x y z (base + (3 * A many + 2)) = z := by
  unfold up4
  rw [up_n (by omega), up_s]
theorem cp3_add (hb : base + 3 * room ≤ many) (ht : t ≠ 84) (ht2 : t + 1 ≠ 84) (hn : A many < room) (hx : x < 256) (hy : y < 256) (hz : z < 256)
    (hc1 : ∀ j, ah_i h2 t j = if j = 3 then nI (A many + 1) else ah_i h t j)
    (hc2 : ∀ j, ah_i h2 (t + 1) j = if j = A many * 3 then nI x else if j = A many * 3 + 1 then nI y else if j = A many * 3 + 2 then nI z else ah_i h (t + 1) j)
    (hm : ∀ j, ah_i h2 84 j = if j = many then nI (A many + 1) else if j = base + 3 * A many then nI x else if j = base + (3 * A many + 1) then nI y else if j = base + (3 * A many + 2) then nI z else ah_i h 84 j)
    (q : cp3 A h t 84 0 room many base) : cp3 (up4 A base many x y z) h2 t 84 0 room many base := by
  obtain ⟨q1, q2, q3, q4, q5, q6⟩ := q
  simp only [Nat.zero_add] at q4 q6
  unfold cp3
  simp only [Nat.zero_add, up4_m]
  refine ⟨by rw [hc1, if_neg (by decide)]; exact q1, by rw [hc1, if_neg (by decide)]; exact q2, by rw [hc1, if_pos rfl], by rw [hm, if_pos rfl], by omega, fun j hj => ?_⟩
  rcases Nat.lt_or_ge j (3 * A many) with k | k
  · have q7 := q6 j k
    rw [up4_n (by omega) (by omega), hc2, if_neg (by omega), if_neg (by omega), if_neg (by omega), hm, if_neg (by omega), if_neg (by omega), if_neg (by omega), if_neg (by omega)]
    exact q7
  · have k3 : j = 3 * A many ∨ j = 3 * A many + 1 ∨ j = 3 * A many + 2 := by omega
    rcases k3 with rfl | rfl | rfl
    · rw [up4_1 (by omega), hc2, if_pos (by omega), hm, if_neg (by omega), if_pos rfl]
      exact ⟨rfl, rfl, hx⟩
    · rw [up4_2 (by omega), hc2, if_neg (by omega), if_pos (by omega), hm, if_neg (by omega), if_neg (by omega), if_pos rfl]
      exact ⟨rfl, rfl, hy⟩
    · rw [up4_3 (by omega), hc2, if_neg (by omega), if_neg (by omega), if_pos (by omega), hm, if_neg (by omega), if_neg (by omega), if_neg (by omega), if_pos rfl]
      exact ⟨rfl, rfl, hz⟩
end AD
