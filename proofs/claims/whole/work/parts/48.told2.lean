/-! ===== told: both sides ask alike ===== -/
theorem q_corner (x : Int32) : f_X12_isCorner x = f_X11_isIn x 12 := by unfold f_X12_isCorner f_X12_lies f_X11_isIn; grind
theorem q_kind (x : Int32) : f_X12_isKind x = f_X11_isIn x 6 := by unfold f_X12_isKind f_X12_lies f_X11_isIn; grind
theorem q_minute (x : Int32) : f_X12_isMinute x = f_X11_isIn x 120 := by unfold f_X12_isMinute f_X12_lies f_X11_isIn; grind
theorem q_two (x : Int32) : f_X12_lies x 0 1 = f_X11_isIn x 2 := by unfold f_X12_lies f_X11_isIn; grind
theorem q_three (x : Int32) : f_X12_lies x 0 2 = f_X11_isIn x 3 := by unfold f_X12_lies f_X11_isIn; grind
theorem q_ten (x : Int32) : f_X12_lies x 0 9 = f_X11_isIn x 10 := by unfold f_X12_lies f_X11_isIn; grind
theorem q_isn {x : Int32} {n : Nat} (hn : n < 2 ^ 31) (h : ¬ f_X11_isIn x (nI n) = 0) : ∃ j, j < n ∧ x = nI j := by
  unfold f_X11_isIn at h
  refine nI_ltO (by grind) (by grind) hn
theorem q_is0 {n j : Nat} (hn : n < 2 ^ 31) (hj : j < n) : ¬ f_X11_isIn (nI j) (nI n) = 0 := by
  unfold f_X11_isIn; grind
/-- has, as both sides say it -/
theorem q_has {x : Int32} {n : Nat} (hn : n ≤ 1000) : f_X12_lies x 0 (nI n - 1) = if 0 ≤ x ∧ x < nI n then 1 else 0 := by
  unfold f_X12_lies; grind
theorem q_hasn {x : Int32} {n : Nat} (hn : n ≤ 1000) (h : 0 ≤ x ∧ x < nI n) : ∃ j, j < n ∧ x = nI j := nI_ltO (by grind) h.2 (by omega)
/-! ## frames of what is well formed -/
section WFf
variable {A A' : Nat → Nat}
theorem wfW_fr (h1 : ∀ j, j < 60 → A' j = A j) (h2 : A' 245 = A 245) (w : wfW A) : wfW A' := by
  obtain ⟨w1, w2, w3⟩ := w
  refine ⟨by omega, fun w hw => ?_, fun w v hw hv => ?_⟩
  · rw [h1 _ (by omega), h1 _ (by omega), h1 _ (by omega)]; exact w2 w (by omega)
  · rw [h1 _ (by omega), h1 _ (by omega), h1 _ (by omega), h1 _ (by omega)]; exact w3 w v (by omega) hv
theorem wfL_fr (h1 : ∀ j, 60 ≤ j → j < 90 → A' j = A j) (h2 : A' 246 = A 246) (w : wfL A) : wfL A' := by
  obtain ⟨w1, w2⟩ := w
  refine ⟨by omega, fun l hl => ?_⟩
  rw [h1 _ (by omega) (by omega), h1 _ (by omega) (by omega), h1 _ (by omega) (by omega)]; exact w2 l (by omega)
theorem wfS_fr (h1 : ∀ j, 90 ≤ j → j < 162 → A' j = A j) (h2 : A' 247 = A 247) (h3 : A 246 ≤ A' 246) (w : wfS A) : wfS A' := by
  obtain ⟨w1, w2⟩ := w
  refine ⟨by omega, fun l hl => ?_⟩
  rw [h1 (90 + 3 * l) (by omega) (by omega), h1 (91 + 3 * l) (by omega) (by omega), h1 (92 + 3 * l) (by omega) (by omega)]
  have := w2 l (by omega)
  exact ⟨by omega, this.2⟩
theorem wfN_fr (h1 : ∀ j, 162 ≤ j → j < 200 → A' j = A j) (h2 : A' 248 = A 248) (w : wfN A) : wfN A' := by
  obtain ⟨w1, w2⟩ := w
  refine ⟨by omega, fun l hl => ?_⟩
  obtain ⟨w3, w4, w5, w6, w7⟩ := w2 l (by omega)
  rw [h1 _ (by omega) (by omega), h1 _ (by omega) (by omega), h1 _ (by omega) (by omega)]
  refine ⟨w3, w4, w5, w6, fun i hi => ?_⟩
  rw [h1 _ (by omega) (by omega)]
  exact w7 i hi
theorem wfE_fr (h1 : ∀ j, 200 ≤ j → j < 218 → A' j = A j) (h2 : A' 249 = A 249) (w : wfE A) : wfE A' := by
  obtain ⟨w1, w2⟩ := w
  refine ⟨by omega, fun l hl => ?_⟩
  rw [h1 _ (by omega) (by omega), h1 _ (by omega) (by omega), h1 _ (by omega) (by omega)]; exact w2 l (by omega)
theorem wfO_fr (h1 : ∀ j, 218 ≤ j → j < 242 → A' j = A j) (h2 : A' 250 = A 250) (h3 : A 246 ≤ A' 246) (w : wfO A) : wfO A' := by
  obtain ⟨w1, w2⟩ := w
  refine ⟨by omega, fun l hl => ?_⟩
  rw [h1 (218 + 3 * l) (by omega) (by omega), h1 (219 + 3 * l) (by omega) (by omega), h1 (220 + 3 * l) (by omega) (by omega)]
  have := w2 l (by omega)
  exact ⟨by omega, this.2⟩
theorem wfT_fr (h1 : ∀ j, 242 ≤ j → j < 245 → A' j = A j) (w : wfT A) : wfT A' := by
  unfold wfT
  rw [h1 _ (by omega) (by omega), h1 _ (by omega) (by omega), h1 _ (by omega) (by omega)]; exact w
theorem wfX_fr (h1 : ∀ j, 251 ≤ j → j < 5860 → A' j = A j) (w : wfX A) : wfX A' := by
  obtain ⟨w1, w2, w3⟩ := w
  have e := h1 251 (by omega) (by omega)
  refine ⟨by omega, by rw [e, h1 252 (by omega) (by omega)]; exact w2, fun t ht => ?_⟩
  rw [e] at ht
  have w4 := w3 t ht
  have e2 := h1 (253 + t) (by omega) (by omega)
  refine ⟨by omega, fun k hk => ?_⟩
  rw [h1 _ (by omega) (by omega), h1 _ (by omega) (by omega)]
  exact w4.2 k (by omega)
end WFf
/-! ## where the row of the town and the model's row differ only so: all of Tn is framed but one part -/
/-- cells of the town but some, and the rest of the world, are as they were; of the model's row only some places changed -/
def ot (P : Nat → Prop) (J : Nat → Prop) (A A' : Nat → Nat) (h h2 : ah_T) : Prop :=
  (∀ a, 1 ≤ a → a ≤ 15 → ¬ P a → eqc h h2 a) ∧ (∀ a, 123 ≤ a → eqc h h2 a) ∧ ah_x h2 = ah_x h ∧ ∀ j, j < 5860 → ¬ J j → ah_i h2 84 j = ah_i h 84 j ∧ A' j = A j
section TNf
variable {TX : ah_T → Nat → (Nat → Nat) → (Nat → Nat) → Nat → Prop} {A A' : Nat → Nat} {h h2 : ah_T} {P J : Nat → Prop}
theorem ot_3 (o : ot P J A A' h h2) {t room many base : Nat} (h0 : 1 ≤ t) (h1 : ¬ P t) (h2' : ¬ P (t + 1)) (ht : t ≤ 14) (hb : base + 3 * room ≤ 5860) (hm : many < 5860) (h3 : ∀ j, (j = many ∨ (base ≤ j ∧ j < base + 3 * room)) → ¬ J j) (q : cp3 A h t 84 0 room many base) : cp3 A' h2 t 84 0 room many base := by
  obtain ⟨o1, o2, o3, o4⟩ := o
  refine cp3_fr (o1 t h0 (by omega) h1).1 (o1 (t + 1) (by omega) (by omega) h2').1 (fun j hj => ?_) q
  have := o4 j (by omega) (h3 j hj)
  rw [Nat.zero_add]
  exact this
theorem ot_L (o : ot P J A A' h h2) (w : wfN A) (h1 : ¬ P 8) (h2' : ¬ P 9) (h3 : ∀ j, (j = 248 ∨ (162 ≤ j ∧ j < 200)) → ¬ J j) (q : cpL A h 8 84 0) : cpL A' h2 8 84 0 := by
  obtain ⟨o1, o2, o3, o4⟩ := o
  refine cpL_fr w (o1 8 (by omega) (by omega) h1).1 (o1 9 (by omega) (by omega) h2').1 (fun j hj => ?_) q
  have := o4 j (by omega) (h3 j hj)
  rw [Nat.zero_add]
  exact this
theorem ot_T (o : ot P J A A' h h2) (h1 : ¬ P 14) (h3 : ∀ j, (242 ≤ j ∧ j < 245) → ¬ J j) (q : cpT A h 14 84 0) : cpT A' h2 14 84 0 := by
  obtain ⟨o1, o2, o3, o4⟩ := o
  refine cpT_fr (o1 14 (by omega) (by omega) h1).1 (fun j hj => ?_) q
  have := o4 j (by omega) (h3 j hj)
  rw [Nat.zero_add]
  exact this
theorem ot_W (o : ot P J A A' h h2) (hTX : TXp TX) (w : wfX A) (h1 : ¬ P 1) (h2' : ¬ P 15) (h3 : ∀ j, 251 ≤ j → ¬ J j) (q : cpW TX A h 1 84 0) : cpW TX A' h2 1 84 0 := by
  obtain ⟨o1, o2, o3, o4⟩ := o
  refine cpW_fr w hTX ((o1 1 (by omega) (by omega) h1).1 8) ((o1 1 (by omega) (by omega) h1).1 9) (o1 15 (by omega) (by omega) h2').2.2.1 (fun j hj hj2 => ?_) (fun x hx _ _ i hi => o2 _ (by omega)) (by omega) q
  have := o4 j (by omega) (h3 j hj)
  rw [Nat.zero_add]
  exact this
end TNf
/-! ## the shapes of the relational ends -/
section RE
variable {TX : ah_T → Nat → (Nat → Nat) → (Nat → Nat) → Nat → Prop} {CC : (Nat → Nat) → ah_T → Prop} {CM : Nat → (Nat → Nat) → ah_T → Prop} {h h2 : ah_T} {n : Nat}
abbrev rQ (J : ah_T → Prop) (M : ab_M) (as : List Value) : Option Value → ah_T → Prop := ab_qi fun v h1 => Sh h1 ∧ Mt M as h1 (ab_qi fun w h2 => v = w ∧ J h2)
theorem rl_rf {J : ah_T → Prop} {M : ab_M} {as : List Value} {x : Int32} {p q : Nat} (hs : Sh h) (hw : isWhy x p q) (k : Mt M as (cRf h x p) (ab_qi fun w h2 => x = w ∧ J h2)) : Mt mX11_refuse [.ref 0, .int x] h (ab_qi fun v h1 => Sh h1 ∧ rQ J M as (some (.int v)) h1) :=
  c_refuse hs hw ⟨x, rfl, hs, x, rfl, hs, k⟩
theorem rl_mf (hTX : TXp TX) (hCC : CCp CC) (hCM : CMp CM) (hI : Inv TX CC CM (n + 1) h) {x : Int32} {p q : Nat} (hw : isWhy x p q) : Mt mX12_refuses [.ref 82, .int x] (cRf h x p) (ab_qi fun v h1 => Sh h1 ∧ (ab_qi fun w h2 => x = w ∧ Inv TX CC CM n h2) (some (.int v)) h1) :=
  m_refuses (show Sh (cRf h x p) from hI.1) hw ⟨x, rfl, hI.1, x, rfl, rfl, inv_refuse hTX hCC hCM hI hw⟩
theorem rl_ch {J : ah_T → Prop} {M : ab_M} {as : List Value} {x : Int32} (hs : Sh h) (k : Mt M as (ah_si (ah_si h 0 19 1) 0 17 0) (ab_qi fun w h2 => x = w ∧ J h2)) : Mt mX11_change [.ref 0, .int x] h (ab_qi fun v h1 => Sh h1 ∧ rQ J M as (some (.int v)) h1) :=
  c_change hs x ⟨x, rfl, hs, x, rfl, hs, k⟩
theorem rl_go {J : ah_T → Prop} {x y : Int32} (hs : Sh h) (e : x = y) (k : J (ah_si (ah_si h 82 0 0) 82 1 (ah_i h 82 1 + 1))) : Mt mX12_good [.ref 82, .int y] h (ab_qi fun v h1 => Sh h1 ∧ (ab_qi fun w h2 => x = w ∧ J h2) (some (.int v)) h1) :=
  m_good hs y ⟨y, rfl, hs, y, rfl, e, k⟩
theorem rl_rp {J : ah_T → Prop} {x y1 y2 : Int32} (hs : Sh h) (j : Nat) (e1 : y1 = nI j) (hj : j < 5860) (e : x = ah_i h 84 j) (k : J (ah_si (ah_si (ah_si h 84 j y2) 82 0 0) 82 1 (ah_i h 82 1 + 1))) : Mt mX12_replaces [.ref 82, .int y1, .int y2] h (ab_qi fun v h1 => Sh h1 ∧ (ab_qi fun w h2 => x = w ∧ J h2) (some (.int v)) h1) :=
  m_replaces hs y1 y2 j e1 hj ⟨_, rfl, hs, _, rfl, e, k⟩
end RE
