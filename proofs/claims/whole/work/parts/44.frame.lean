/-! ===== what stays: cells that are as they were ===== -/
def eqc (h h' : ah_T) (a : Nat) : Prop := (∀ j, ah_i h' a j = ah_i h a j) ∧ (∀ j, ah_l h' a j = ah_l h a j) ∧ (∀ j, ah_r h' a j = ah_r h a j) ∧ ah_k h' a = ah_k h a ∧ ah_n h' a = ah_n h a
theorem eqc_rfl {h : ah_T} {a : Nat} : eqc h h a := ⟨fun _ => rfl, fun _ => rfl, fun _ => rfl, rfl, rfl⟩
theorem eqc_trans {h h' h'' : ah_T} {a : Nat} (q : eqc h h' a) (r : eqc h' h'' a) : eqc h h'' a := ⟨fun j => (r.1 j).trans (q.1 j), fun j => (r.2.1 j).trans (q.2.1 j), fun j => (r.2.2.1 j).trans (q.2.2.1 j), r.2.2.2.1.trans q.2.2.2.1, r.2.2.2.2.trans q.2.2.2.2⟩
theorem eqc_si {h h' : ah_T} {a b j : Nat} {x : Int32} (q : eqc h h' a) (n : a ≠ b) : eqc h (ah_si h' b j x) a := ⟨fun k => by rw [ah_i_sn (fun z => n z.1)]; exact q.1 k, q.2⟩
theorem eqc_sa {h h' : ah_T} {a b : Nat} {f : Nat → Int32} (q : eqc h h' a) (n : a ≠ b) : eqc h (ah_sa h' b f) a := ⟨fun k => by rw [ah_i_sa, if_neg n]; exact q.1 k, q.2⟩
theorem eqc_fl {h h' : ah_T} {a b i m : Nat} {x : Int32} (q : eqc h h' a) (n : a ≠ b) : eqc h (ab_fl h' b i m x) a := eqc_sa q n
theorem eqc_sl {h h' : ah_T} {a b j : Nat} {x : Int64} (q : eqc h h' a) (n : a ≠ b) : eqc h (ah_sl h' b j x) a := ⟨q.1, fun k => by rw [ah_l_sl, if_neg (fun z => n z.1)]; exact q.2.1 k, q.2.2⟩
theorem eqc_sr {h h' : ah_T} {a b j : Nat} {x : Option Nat} (q : eqc h h' a) (n : a ≠ b) : eqc h (ah_sr h' b j x) a := ⟨q.1, q.2.1, fun k => by rw [ah_r_sr, if_neg (fun z => n z.1)]; exact q.2.2.1 k, q.2.2.2⟩
theorem eqc_nw {h h' : ah_T} {a c n : Nat} (q : eqc h h' a) (hn : a ≠ ah_x h') : eqc h (ah_nw h' c n) a := ⟨fun k => by rw [ah_i_nw, if_neg hn]; exact q.1 k, fun k => by rw [ah_l_nw, if_neg hn]; exact q.2.1 k, fun k => by rw [ah_r_nw, if_neg hn]; exact q.2.2.1 k, by rw [ah_k_nw, if_neg hn]; exact q.2.2.2.1, by rw [ah_n_nw, if_neg hn]; exact q.2.2.2.2⟩
def TXp (TX : ah_T → Nat → (Nat → Nat) → (Nat → Nat) → Nat → Prop) : Prop :=
  (∀ h h' x cs vs n, TX h x cs vs n → (∀ i, i < 4 → eqc h h' (x + i)) → ah_x h ≤ ah_x h' → TX h' x cs vs n) ∧
  (∀ h x cs vs n, TX h x cs vs n → 123 ≤ x ∧ x + 4 ≤ ah_x h ∧ ah_k h x = 9 ∧ ah_k h (x + 1) = 14 ∧ ah_k h (x + 2) = 14 ∧ ah_k h (x + 3) = 14) ∧
  ∀ h x cs vs cs' vs' n, (∀ k, k < n → cs' k = cs k ∧ vs' k = vs k) → TX h x cs vs n → TX h x cs' vs' n
section FR
variable {TX : ah_T → Nat → (Nat → Nat) → (Nat → Nat) → Nat → Prop} {A A' B0 B1 : Nat → Nat} {h h' : ah_T} {t c o room many base b : Nat}
theorem cp3_fr (h1 : ∀ j, ah_i h' t j = ah_i h t j) (h2 : ∀ j, ah_i h' (t + 1) j = ah_i h (t + 1) j) (h3 : ∀ j, (j = many ∨ (base ≤ j ∧ j < base + 3 * room)) → ah_i h' c (o + j) = ah_i h c (o + j) ∧ A' j = A j) (q : cp3 A h t c o room many base) : cp3 A' h' t c o room many base := by
  obtain ⟨q1, q2, q3, q4, q5, q6⟩ := q
  have e := h3 many (.inl rfl)
  refine ⟨by rw [h1]; exact q1, by rw [h1]; exact q2, by rw [h1, e.2]; exact q3, by rw [e.1, e.2]; exact q4, by rw [e.2]; exact q5, fun j hj => ?_⟩
  rw [e.2] at hj
  have e2 := h3 (base + j) (.inr ⟨by omega, by omega⟩)
  have q7 := q6 j hj
  rw [h2, e2.1, e2.2]
  exact q7
theorem cpL_fr (w : wfN A) (h1 : ∀ j, ah_i h' t j = ah_i h t j) (h2 : ∀ j, ah_i h' (t + 1) j = ah_i h (t + 1) j) (h3 : ∀ j, (j = 248 ∨ (162 ≤ j ∧ j < 200)) → ah_i h' c (o + j) = ah_i h c (o + j) ∧ A' j = A j) (q : cpL A h t c o) : cpL A' h' t c o := by
  obtain ⟨q1, q2, q3, q4, q5⟩ := q
  have e := h3 248 (.inl rfl)
  refine ⟨by rw [h1]; exact q1, by rw [h1]; exact q2, by rw [h1, e.2]; exact q3, by rw [e.1, e.2]; exact q4, fun l hl => ?_⟩
  rw [e.2] at hl
  obtain ⟨w1, w2⟩ := w
  obtain ⟨w3, w4, w5, w6, w7⟩ := w2 l hl
  obtain ⟨r1, r2, r3, r4, r5, r6, r7, r8, r9⟩ := q5 l hl
  have k1 := h3 (162 + 19 * l) (by omega)
  have k2 := h3 (163 + 19 * l) (by omega)
  have k3 := h3 (164 + 19 * l) (by omega)
  have k4 := h3 (165 + 19 * l) (by omega)
  unfold cpL1
  rw [h2, h2, h2, h2, k1.1, k1.2, k2.1, k2.2, k3.1, k3.2, k4.2]
  refine ⟨r1, r2, r3, r4, fun i hi => ?_, r6, r7, r8, fun i hi => ?_⟩
  · rw [h2, (h3 (166 + 19 * l + i) (by omega)).2]
    exact r5 i hi
  · rw [(h3 (165 + 19 * l + i) (by omega)).1, (h3 (165 + 19 * l + i) (by omega)).2]
    exact r9 i hi
theorem cpT_fr (h1 : ∀ j, ah_i h' t j = ah_i h t j) (h3 : ∀ j, (242 ≤ j ∧ j < 245) → ah_i h' c (o + j) = ah_i h c (o + j) ∧ A' j = A j) (q : cpT A h t c o) : cpT A' h' t c o := by
  intro j hj
  have e := h3 (242 + j) (by omega)
  rw [h1, e.1, e.2]
  exact q j hj
theorem lkB_fr (h4 : ∀ j, ah_r h' (b + 14) j = ah_r h (b + 14) j) (h5 : ∀ x, 123 ≤ x → ah_k h x = 9 ∧ ah_k h (x + 1) = 14 ∧ ah_k h (x + 2) = 14 ∧ ah_k h (x + 3) = 14 → x + 4 ≤ ah_x h → ∀ i, i < 4 → eqc h h' (x + i)) (hx : ah_x h ≤ ah_x h') (q : lkB h b) : lkB h' b := by
  intro t x e
  rw [h4] at e
  obtain ⟨a1, a2, a3, a4, a5, a6⟩ := q t x e
  have f := h5 x a1 ⟨a3, a4, a5, a6⟩ a2
  exact ⟨a1, Nat.le_trans a2 hx, (f 0 (by omega)).2.2.2.1.trans a3, (f 1 (by omega)).2.2.2.1.trans a4, (f 2 (by omega)).2.2.2.1.trans a5, (f 3 (by omega)).2.2.2.1.trans a6⟩
theorem cpW_fr (w : wfX A) (hTX : TXp TX) (h1 : ah_i h' b 8 = ah_i h b 8) (h2 : ah_i h' b 9 = ah_i h b 9) (h4 : ∀ j, ah_r h' (b + 14) j = ah_r h (b + 14) j) (h3 : ∀ j, 251 ≤ j → j < 5860 → ah_i h' c (o + j) = ah_i h c (o + j) ∧ A' j = A j) (h5 : ∀ x, 123 ≤ x → ah_k h x = 9 ∧ ah_k h (x + 1) = 14 ∧ ah_k h (x + 2) = 14 ∧ ah_k h (x + 3) = 14 → x + 4 ≤ ah_x h → ∀ i, i < 4 → eqc h h' (x + i)) (hx : ah_x h ≤ ah_x h') (q : cpW TX A h b c o) : cpW TX A' h' b c o := by
  obtain ⟨q1, q2, q3, q4, q5, q6⟩ := q
  have e1 := h3 251 (by omega) (by omega)
  have e2 := h3 252 (by omega) (by omega)
  refine ⟨by rw [h1, e1.2]; exact q1, by rw [h2, e2.2]; exact q2, by rw [e1.1, e1.2]; exact q3, by rw [e2.1, e2.2]; exact q4, fun t ht => ?_, lkB_fr h4 h5 hx q6⟩
  rw [e1.2] at ht
  obtain ⟨w1, w2, w3⟩ := w
  obtain ⟨w4, w5⟩ := w3 t ht
  obtain ⟨r1, r2, x, r3, r4⟩ := q5 t ht
  have e3 := h3 (253 + t) (by omega) (by omega)
  refine ⟨by rw [e3.1, e3.2]; exact r1, fun k hk => ?_, x, by rw [h4]; exact r3, ?_⟩
  · rw [e3.2] at hk
    have e4 := h3 (260 + 400 * t + k) (by omega) (by omega)
    have e5 := h3 (3060 + 400 * t + k) (by omega) (by omega)
    rw [e4.1, e4.2, e5.1, e5.2]
    exact r2 k hk
  · rw [e3.2]
    refine hTX.2.2 _ _ _ _ _ _ _ (fun k hk => ⟨(h3 (260 + 400 * t + k) (by omega) (by omega)).2, (h3 (3060 + 400 * t + k) (by omega) (by omega)).2⟩) ?_
    have f := hTX.2.1 _ _ _ _ _ r4
    exact hTX.1 _ _ _ _ _ _ r4 (h5 x f.1 f.2.2 f.2.1) hx
theorem Tn_fr (w : WF A) (hTX : TXp TX) (h1 : ∀ i, i < 15 → eqc h h' (b + i)) (h2 : eqc h h' c) (h5 : ∀ x, 123 ≤ x → ah_k h x = 9 ∧ ah_k h (x + 1) = 14 ∧ ah_k h (x + 2) = 14 ∧ ah_k h (x + 3) = 14 → x + 4 ≤ ah_x h → ∀ i, i < 4 → eqc h h' (x + i)) (hx : ah_x h ≤ ah_x h') (q : Tn TX A h b c o) : Tn TX A h' b c o := by
  obtain ⟨q1, q2, q3, q4, q5, q6, q7, q8⟩ := q
  have z : ∀ j, ah_i h' c (o + j) = ah_i h c (o + j) ∧ A j = A j := fun j => ⟨h2.1 _, rfl⟩
  exact ⟨cp3_fr (h1 1 (by omega)).1 (h1 2 (by omega)).1 (fun j _ => z j) q1, cp3_fr (h1 3 (by omega)).1 (h1 4 (by omega)).1 (fun j _ => z j) q2, cp3_fr (h1 5 (by omega)).1 (h1 6 (by omega)).1 (fun j _ => z j) q3, cpL_fr w.2.2.2.1 (h1 7 (by omega)).1 (h1 8 (by omega)).1 (fun j _ => z j) q4, cp3_fr (h1 9 (by omega)).1 (h1 10 (by omega)).1 (fun j _ => z j) q5, cp3_fr (h1 11 (by omega)).1 (h1 12 (by omega)).1 (fun j _ => z j) q6, cpT_fr (h1 13 (by omega)).1 (fun j _ => z j) q7, cpW_fr w.2.2.2.2.2.2.2 hTX ((h1 0 (by omega)).1 8) ((h1 0 (by omega)).1 9) (h1 14 (by omega)).2.2.1 (fun j _ _ => z j) h5 hx q8⟩
theorem iR_fr (h1 : ∀ i, i < 15 → eqc h h' (b + i)) (hx : ah_x h ≤ ah_x h') (q : iR h b) : iR h' b := by
  obtain ⟨q1, q2, q3, q4, q5, q6⟩ := q
  refine ⟨q1, Nat.le_trans q2 hx, fun i hi => ?_, fun i hi => ?_, ?_, ?_⟩
  · rw [(h1 i hi).2.2.2.1, (h1 i hi).2.2.2.2]; exact q3 i hi
  · have e := (h1 0 (by omega)).2.2.1
    rw [show b + 0 = b from rfl] at e
    rw [e, (h1 (2 * i + 1) (by omega)).2.2.1]
    exact q4 i hi
  · have e := (h1 0 (by omega)).2.2.1
    rw [show b + 0 = b from rfl] at e
    rw [e]; exact q5
  · have e := (h1 0 (by omega)).2.2.1
    rw [show b + 0 = b from rfl] at e
    rw [e]; exact q6
theorem Im1_fr {B : Nat → Nat} {k : Nat} (hTX : TXp TX) (h1 : ∀ a, 123 ≤ a → a < ah_x h → eqc h h' a) (h2 : eqc h h' 16) (h3 : eqc h h' 85) (h4 : eqc h h' 86) (hx : ah_x h ≤ ah_x h') (q : Im1 TX B h k) : Im1 TX B h' k := by
  rcases q with ⟨q1, q2⟩ | ⟨q1, b, q2, q3, q4, q5⟩
  · exact .inl ⟨by rw [h4.1]; exact q1, by rw [h2.2.2.1]; exact q2⟩
  · have e : ∀ i, i < 15 → eqc h h' (b + i) := fun i hi => h1 _ (by have := q3.1; omega) (by have := q3.2.1; omega)
    exact .inr ⟨by rw [h4.1]; exact q1, b, by rw [h2.2.2.1]; exact q2, iR_fr e hx q3, Tn_fr q5 hTX e h3 (fun x hx1 _ hx2 i hi => h1 _ (by omega) (by omega)) hx q4, q5⟩
theorem Im_fr (hTX : TXp TX) (h1 : ∀ a, 123 ≤ a → a < ah_x h → eqc h h' a) (h2 : eqc h h' 16) (h3 : eqc h h' 85) (h4 : eqc h h' 86) (hx : ah_x h ≤ ah_x h') (q : Im TX B0 B1 h) : Im TX B0 B1 h' :=
  ⟨Im1_fr hTX h1 h2 h3 h4 hx q.1, Im1_fr hTX h1 h2 h3 h4 hx q.2.1, by rw [h2.2.2.1, h2.2.2.1]; exact q.2.2⟩
end FR
