/-! ===== told: rows that come behind (printed by gen49.py) ===== -/
theorem why1 : isWhy (-1) 0 1 := .inl ⟨rfl, rfl, rfl⟩
theorem why2 : isWhy (-2) 1 2 := .inr (.inl ⟨rfl, rfl, rfl⟩)
theorem why3 : isWhy (-3) 2 3 := .inr (.inr (.inl ⟨rfl, rfl, rfl⟩))
theorem why5 : isWhy (-5) 3 5 := .inr (.inr (.inr (.inl ⟨rfl, rfl, rfl⟩)))
theorem why6 : isWhy (-6) 4 6 := .inr (.inr (.inr (.inr ⟨rfl, rfl, rfl⟩)))
theorem cl_245 : Int32.toNatClampNeg 245 = 245 := rfl
theorem cl_246 : Int32.toNatClampNeg 246 = 246 := rfl
theorem cl_247 : Int32.toNatClampNeg 247 = 247 := rfl
theorem cl_248 : Int32.toNatClampNeg 248 = 248 := rfl
theorem cl_249 : Int32.toNatClampNeg 249 = 249 := rfl
theorem cl_250 : Int32.toNatClampNeg 250 = 250 := rfl
theorem cl_251 : Int32.toNatClampNeg 251 = 251 := rfl
theorem cl_252 : Int32.toNatClampNeg 252 = 252 := rfl
theorem rf_84 {h : ah_T} {x : Int32} {p a j : Nat} (h0 : a ≠ 0) (h1 : a ≠ 18) : ah_i (cRf h x p) a j = ah_i h a j := (eqc_cRf h0 h1).1 j
theorem sh_cRf {h : ah_T} {x : Int32} {p : Nat} (hs : Sh h) : Sh (cRf h x p) := sh_si (sh_si hs)
/-- behind a change of the town the marks of the class, behind a good end those of the model -/
def chg (h : ah_T) : ah_T := ah_si (ah_si h 0 19 1) 0 17 0
def god (h : ah_T) : ah_T := ah_si (ah_si h 82 0 0) 82 1 (ah_i h 82 1 + 1)
theorem x_god {h : ah_T} : ah_x (god h) = ah_x h := by unfold god; rw [ah_x_si, ah_x_si]
theorem x_chg {h : ah_T} : ah_x (chg h) = ah_x h := by unfold chg; rw [ah_x_si, ah_x_si]
theorem chg_eq {h h' : ah_T} {a : Nat} (q : eqc h h' a) (n : a ≠ 0) : eqc h (chg h') a := eqc_si (eqc_si q n) n
theorem god_eq {h h' : ah_T} {a : Nat} (q : eqc h h' a) (n : a ≠ 82) : eqc h (god h') a := eqc_si (eqc_si q n) n
theorem chg_0 {h : ah_T} {j : Nat} : ah_i (chg h) 0 j = if j = 17 then 0 else if j = 19 then 1 else ah_i h 0 j := by
  unfold chg; rw [ah_i_si, ah_i_si]; simp only [true_and]
theorem god_82 {h : ah_T} {j : Nat} : ah_i (god h) 82 j = if j = 1 then ah_i h 82 1 + 1 else if j = 0 then 0 else ah_i h 82 j := by
  unfold god; rw [ah_i_si, ah_i_si]; simp only [true_and]
/-- told: the marks -/
theorem tl_mk {h h1 h2 : ah_T} (x1 : ah_x h1 = ah_x h) (x2 : ah_x h2 = ah_x (chg h1)) (e1 : ∀ a, 15 < a → eqc h h1 a) (e0 : ∀ j, j ≠ 18 → ah_i h1 0 j = ah_i h 0 j) (e2 : ∀ a, a ≠ 84 → eqc (chg h1) h2 a) : tl h (god h2) := by
  have f0 : ∀ j, ah_i (god h2) 0 j = ah_i (chg h1) 0 j := fun j => (god_eq (e2 0 (by decide)) (by decide)).1 j
  have f82 : ∀ j, ah_i h2 82 j = ah_i h 82 j := fun j => by rw [(e2 82 (by decide)).1, (chg_eq (e1 82 (by decide)) (by decide)).1]
  refine ⟨by rw [x_god, x2, x_chg, x1], fun a h1 h2 h3 => god_eq (eqc_trans (chg_eq (e1 a h1) (by omega)) (e2 a h3)) h2, fun j h1 h2 h3 => ?_, fun j h1 h2 => ?_, ?_, ?_, ?_⟩
  · rw [f0, chg_0, if_neg h1, if_neg h3, e0 j h2]
  · rw [god_82, if_neg h2, if_neg h1, f82]
  · rw [f0, chg_0, if_neg (by decide), if_pos rfl]
  · rw [god_82, if_pos rfl, f82]
  · rw [f0, chg_0, if_pos rfl, god_82, if_neg (by decide), if_pos rfl]
theorem if3 {α : Type} {j a b c : Nat} (h1 : a < b) (h2 : b < c) {x y z w : α} : (if j = c then z else if j = b then y else if j = a then x else w) = if j = a then x else if j = b then y else if j = c then z else w := by
  by_cases k1 : j = a
  · rw [if_neg (by omega), if_neg (by omega), if_pos k1, if_pos k1]
  · by_cases k2 : j = b
    · rw [if_neg (by omega), if_pos k2, if_neg k1, if_pos k2]
    · rw [if_neg k1, if_neg k2, if_neg k1, if_neg k2]
theorem sh_god {h : ah_T} (hs : Sh h) : Sh (god h) := sh_si (sh_si hs)
theorem sh_chg {h : ah_T} (hs : Sh h) : Sh (chg h) := sh_si (sh_si hs)
theorem god_i {h : ah_T} {a j : Nat} (n : a ≠ 82) : ah_i (god h) a j = ah_i h a j := (god_eq (h := h) eqc_rfl n).1 j
theorem chg_i {h : ah_T} {a j : Nat} (n : a ≠ 0) : ah_i (chg h) a j = ah_i h a j := (chg_eq (h := h) eqc_rfl n).1 j
/-- a row of three written into cell c -/
def w3 (h : ah_T) (c p : Nat) (x y z : Int32) : ah_T := ah_si (ah_si (ah_si h c p x) c (p + 1) y) c (p + 2) z
theorem w3_i {h : ah_T} {c p : Nat} {x y z : Int32} (j : Nat) : ah_i (w3 h c p x y z) c j = if j = p then x else if j = p + 1 then y else if j = p + 2 then z else ah_i h c j := by
  unfold w3
  rw [ah_i_si, ah_i_si, ah_i_si]
  simp only [true_and]
  exact if3 (by omega) (by omega)
theorem x_w3 {h : ah_T} {c p : Nat} {x y z : Int32} : ah_x (w3 h c p x y z) = ah_x h := by unfold w3; rw [ah_x_si, ah_x_si, ah_x_si]
theorem sh_w3 {h : ah_T} {c p : Nat} {x y z : Int32} (hs : Sh h) : Sh (w3 h c p x y z) := sh_si (sh_si (sh_si hs))
theorem sh_fl {h : ah_T} {c p q : Nat} {x : Int32} (hs : Sh h) : Sh (ab_fl h c p q x) := sh_sa hs
theorem x_fl {h : ah_T} {c p q : Nat} {x : Int32} : ah_x (ab_fl h c p q x) = ah_x h := ah_x_sa _ _ _
theorem w3_eq {h h' : ah_T} {a c p : Nat} {x y z : Int32} (q : eqc h h' a) (n : a ≠ c) : eqc h (w3 h' c p x y z) a := eqc_si (eqc_si (eqc_si q n) n) n
section AD2
variable {TX : ah_T → Nat → (Nat → Nat) → (Nat → Nat) → Nat → Prop} {A : Nat → Nat} {h : ah_T} {x y z : Nat}
/-- the class adds a row to the table t; the model to its row -/
def cA (h : ah_T) (t n : Nat) (x y z : Nat) : ah_T := ah_si (w3 (ab_fl h (t + 1) (n * 3) (n * 3 + 3) 0) (t + 1) (n * 3) (nI x) (nI y) (nI z)) t 3 (nI (n + 1))
def mA (h : ah_T) (b m n : Nat) (x y z : Nat) : ah_T := ah_si (w3 h 84 (b + 3 * n) (nI x) (nI y) (nI z)) 84 m (nI (n + 1))
theorem cA_eq {t n a : Nat} {h' : ah_T} (q : eqc h h' a) (h1 : a ≠ t) (h2 : a ≠ t + 1) : eqc h (cA h' t n x y z) a := eqc_si (w3_eq (eqc_fl q h2) h2) h1
theorem mA_eq {b m n a : Nat} {h' : ah_T} (q : eqc h h' a) (h1 : a ≠ 84) : eqc h (mA h' b m n x y z) a := eqc_si (w3_eq q h1) h1
theorem x_cA {t n : Nat} : ah_x (cA h t n x y z) = ah_x h := by unfold cA; rw [ah_x_si, x_w3, x_fl]
theorem x_mA {b m n : Nat} : ah_x (mA h b m n x y z) = ah_x h := by unfold mA; rw [ah_x_si, x_w3]
theorem sh_cA {t n : Nat} (hs : Sh h) : Sh (cA h t n x y z) := sh_si (sh_w3 (sh_fl hs))
theorem sh_mA {b m n : Nat} (hs : Sh h) : Sh (mA h b m n x y z) := sh_si (sh_w3 hs)
theorem cA_i {t n a j : Nat} (h1 : a ≠ t) (h2 : a ≠ t + 1) : ah_i (cA h t n x y z) a j = ah_i h a j := (cA_eq (h := h) eqc_rfl h1 h2).1 j
theorem mA_n {b m n a j : Nat} (h1 : a ≠ 84) : ah_i (mA h b m n x y z) a j = ah_i h a j := (mA_eq (h := h) eqc_rfl h1).1 j
theorem cA_t {t n j : Nat} : ah_i (cA h t n x y z) t j = if j = 3 then nI (n + 1) else ah_i h t j := by
  unfold cA
  rw [ah_i_si]
  simp only [true_and]
  by_cases c : j = 3
  · rw [if_pos c, if_pos c]
  · rw [if_neg c, if_neg c]
    exact (w3_eq (eqc_fl eqc_rfl (by omega)) (by omega)).1 j
theorem cA_c {t n j : Nat} : ah_i (cA h t n x y z) (t + 1) j = if j = n * 3 then nI x else if j = n * 3 + 1 then nI y else if j = n * 3 + 2 then nI z else ah_i h (t + 1) j := by
  unfold cA
  rw [ah_i_sn (by omega), w3_i, ah_i_fl]
  by_cases k1 : j = n * 3
  · rw [if_pos k1, if_pos k1]
  · by_cases k2 : j = n * 3 + 1
    · rw [if_neg k1, if_pos k2, if_neg k1, if_pos k2]
    · by_cases k3 : j = n * 3 + 2
      · rw [if_neg k1, if_neg k2, if_pos k3, if_neg k1, if_neg k2, if_pos k3]
      · rw [if_neg k1, if_neg k2, if_neg k3, if_neg k1, if_neg k2, if_neg k3, if_neg (by omega)]
theorem mA_i {b m n j : Nat} : ah_i (mA h b m n x y z) 84 j = if j = m then nI (n + 1) else if j = b + 3 * n then nI x else if j = b + (3 * n + 1) then nI y else if j = b + (3 * n + 2) then nI z else ah_i h 84 j := by
  unfold mA
  rw [ah_i_si, w3_i, Nat.add_assoc, Nat.add_assoc]
  simp only [true_and]

abbrev fA_way (A : Nat → Nat) (h : ah_T) (x y z : Nat) : ah_T := god (mA (chg (cA (ah_si h 0 18 1) 2 (A 245) x y z)) 0 245 (A 245) x y z)
theorem fe_way {a : Nat} (h0 : a ≠ 0) (h1 : a ≠ 2) (h2 : a ≠ 3) (h3 : a ≠ 82) (h4 : a ≠ 84) : eqc h (fA_way A h x y z) a := god_eq (mA_eq (chg_eq (cA_eq (eqc_si eqc_rfl (by omega)) h1 h2) h0) h4) h3
theorem x_way : ah_x (fA_way A h x y z) = ah_x h := by rw [x_god, x_mA, x_chg, x_cA, ah_x_si]
theorem sh_way (hs : Sh h) : Sh (fA_way A h x y z) := sh_god (sh_mA (sh_chg (sh_cA (sh_si hs))))
theorem Tn_way (hTX : TXp TX) (wf : WF A) (tn : Tn TX A h 1 84 0) (hn : A 245 < 20) (hx : x < 256) (hy : y < 256) (hz : z < 256) : Tn TX (up4 A 0 245 x y z) (fA_way A h x y z) 1 84 0 := by
  obtain ⟨q1, q2, q3, q4, q5, q6, q7, q8⟩ := tn
  have pm : ∀ j, ah_i (fA_way A h x y z) 84 j = if j = 245 then nI (A 245 + 1) else if j = 0 + 3 * A 245 then nI x else if j = 0 + (3 * A 245 + 1) then nI y else if j = 0 + (3 * A 245 + 2) then nI z else ah_i h 84 j := fun j => by
    rw [god_i (by decide), mA_i, chg_i (by decide), cA_i (by decide) (by decide), ah_i_sn (by omega)]
  have o : ot (fun a => a = 2 ∨ a = 3) (fun j => j = 245 ∨ (0 ≤ j ∧ j < 60)) A (up4 A 0 245 x y z) h (fA_way A h x y z) := by
    refine ⟨fun a h1 h2 h3 => fe_way (by omega) (by omega) (by omega) (by omega) (by omega), fun a h1 => fe_way (by omega) (by omega) (by omega) (by omega) (by omega), x_way, fun j hj hJ => ⟨?_, up4_n (by omega) (by omega)⟩⟩
    rw [pm, if_neg (by omega), if_neg (by omega), if_neg (by omega), if_neg (by omega)]
  have pt : ∀ j, ah_i (fA_way A h x y z) 2 j = if j = 3 then nI (A 245 + 1) else ah_i h 2 j := fun j => by
    rw [god_i (by decide), mA_n (by decide), chg_i (by decide), cA_t, ah_i_sn (by omega)]
  have pc : ∀ j, ah_i (fA_way A h x y z) (2 + 1) j = if j = A 245 * 3 then nI x else if j = A 245 * 3 + 1 then nI y else if j = A 245 * 3 + 2 then nI z else ah_i h (2 + 1) j := fun j => by
    rw [god_i (by decide), mA_n (by decide), chg_i (by decide), cA_c, ah_i_sn (by omega)]
  exact ⟨cp3_add (h := h) (by omega) (by omega) (by omega) hn hx hy hz pt pc pm q1,
    ot_3 o (by omega) (by omega) (by omega) (by omega) (by omega) (by omega) (fun j hj => by omega) q2,
    ot_3 o (by omega) (by omega) (by omega) (by omega) (by omega) (by omega) (fun j hj => by omega) q3,
    ot_L o wf.2.2.2.1 (by omega) (by omega) (fun j hj => by omega) q4,
    ot_3 o (by omega) (by omega) (by omega) (by omega) (by omega) (by omega) (fun j hj => by omega) q5,
    ot_3 o (by omega) (by omega) (by omega) (by omega) (by omega) (by omega) (fun j hj => by omega) q6,
    ot_T o (by omega) (fun j hj => by omega) q7,
    ot_W o hTX wf.2.2.2.2.2.2.2 (by omega) (by omega) (fun j hj => by omega) q8⟩
theorem tl_way : tl h (fA_way A h x y z) := tl_mk (by rw [x_cA, ah_x_si]) x_mA (fun a h1 => cA_eq (eqc_si eqc_rfl (by omega)) (by omega) (by omega)) (fun j hj => by rw [cA_i (by decide) (by decide), ah_i_sn (by omega)]) (fun a h1 => mA_eq eqc_rfl h1)
theorem f18_way : ah_i (fA_way A h x y z) 0 18 = 1 := by
  rw [god_i (by decide), mA_n (by decide), chg_0, if_neg (by decide), if_neg (by decide), cA_i (by decide) (by decide)]
  exact ah_i_ss
theorem rb_way : rb A (up4 A 0 245 x y z) h (fA_way A h x y z) := .inl f18_way
abbrev fA_lamp (A : Nat → Nat) (h : ah_T) (x y z : Nat) : ah_T := god (mA (chg (cA (ah_si h 0 18 1) 4 (A 246) x y z)) 60 246 (A 246) x y z)
theorem fe_lamp {a : Nat} (h0 : a ≠ 0) (h1 : a ≠ 4) (h2 : a ≠ 5) (h3 : a ≠ 82) (h4 : a ≠ 84) : eqc h (fA_lamp A h x y z) a := god_eq (mA_eq (chg_eq (cA_eq (eqc_si eqc_rfl (by omega)) h1 h2) h0) h4) h3
theorem x_lamp : ah_x (fA_lamp A h x y z) = ah_x h := by rw [x_god, x_mA, x_chg, x_cA, ah_x_si]
theorem sh_lamp (hs : Sh h) : Sh (fA_lamp A h x y z) := sh_god (sh_mA (sh_chg (sh_cA (sh_si hs))))
theorem Tn_lamp (hTX : TXp TX) (wf : WF A) (tn : Tn TX A h 1 84 0) (hn : A 246 < 10) (hx : x < 256) (hy : y < 256) (hz : z < 256) : Tn TX (up4 A 60 246 x y z) (fA_lamp A h x y z) 1 84 0 := by
  obtain ⟨q1, q2, q3, q4, q5, q6, q7, q8⟩ := tn
  have pm : ∀ j, ah_i (fA_lamp A h x y z) 84 j = if j = 246 then nI (A 246 + 1) else if j = 60 + 3 * A 246 then nI x else if j = 60 + (3 * A 246 + 1) then nI y else if j = 60 + (3 * A 246 + 2) then nI z else ah_i h 84 j := fun j => by
    rw [god_i (by decide), mA_i, chg_i (by decide), cA_i (by decide) (by decide), ah_i_sn (by omega)]
  have o : ot (fun a => a = 4 ∨ a = 5) (fun j => j = 246 ∨ (60 ≤ j ∧ j < 90)) A (up4 A 60 246 x y z) h (fA_lamp A h x y z) := by
    refine ⟨fun a h1 h2 h3 => fe_lamp (by omega) (by omega) (by omega) (by omega) (by omega), fun a h1 => fe_lamp (by omega) (by omega) (by omega) (by omega) (by omega), x_lamp, fun j hj hJ => ⟨?_, up4_n (by omega) (by omega)⟩⟩
    rw [pm, if_neg (by omega), if_neg (by omega), if_neg (by omega), if_neg (by omega)]
  have pt : ∀ j, ah_i (fA_lamp A h x y z) 4 j = if j = 3 then nI (A 246 + 1) else ah_i h 4 j := fun j => by
    rw [god_i (by decide), mA_n (by decide), chg_i (by decide), cA_t, ah_i_sn (by omega)]
  have pc : ∀ j, ah_i (fA_lamp A h x y z) (4 + 1) j = if j = A 246 * 3 then nI x else if j = A 246 * 3 + 1 then nI y else if j = A 246 * 3 + 2 then nI z else ah_i h (4 + 1) j := fun j => by
    rw [god_i (by decide), mA_n (by decide), chg_i (by decide), cA_c, ah_i_sn (by omega)]
  exact ⟨ot_3 o (by omega) (by omega) (by omega) (by omega) (by omega) (by omega) (fun j hj => by omega) q1,
    cp3_add (h := h) (by omega) (by omega) (by omega) hn hx hy hz pt pc pm q2,
    ot_3 o (by omega) (by omega) (by omega) (by omega) (by omega) (by omega) (fun j hj => by omega) q3,
    ot_L o wf.2.2.2.1 (by omega) (by omega) (fun j hj => by omega) q4,
    ot_3 o (by omega) (by omega) (by omega) (by omega) (by omega) (by omega) (fun j hj => by omega) q5,
    ot_3 o (by omega) (by omega) (by omega) (by omega) (by omega) (by omega) (fun j hj => by omega) q6,
    ot_T o (by omega) (fun j hj => by omega) q7,
    ot_W o hTX wf.2.2.2.2.2.2.2 (by omega) (by omega) (fun j hj => by omega) q8⟩
theorem tl_lamp : tl h (fA_lamp A h x y z) := tl_mk (by rw [x_cA, ah_x_si]) x_mA (fun a h1 => cA_eq (eqc_si eqc_rfl (by omega)) (by omega) (by omega)) (fun j hj => by rw [cA_i (by decide) (by decide), ah_i_sn (by omega)]) (fun a h1 => mA_eq eqc_rfl h1)
theorem f18_lamp : ah_i (fA_lamp A h x y z) 0 18 = 1 := by
  rw [god_i (by decide), mA_n (by decide), chg_0, if_neg (by decide), if_neg (by decide), cA_i (by decide) (by decide)]
  exact ah_i_ss
theorem rb_lamp : rb A (up4 A 60 246 x y z) h (fA_lamp A h x y z) := .inl f18_lamp
abbrev fA_switch (A : Nat → Nat) (h : ah_T) (x y z : Nat) : ah_T := god (mA (chg (cA h 6 (A 247) x y z)) 90 247 (A 247) x y z)
theorem fe_switch {a : Nat} (h0 : a ≠ 0) (h1 : a ≠ 6) (h2 : a ≠ 7) (h3 : a ≠ 82) (h4 : a ≠ 84) : eqc h (fA_switch A h x y z) a := god_eq (mA_eq (chg_eq (cA_eq eqc_rfl h1 h2) h0) h4) h3
theorem x_switch : ah_x (fA_switch A h x y z) = ah_x h := by rw [x_god, x_mA, x_chg, x_cA]
theorem sh_switch (hs : Sh h) : Sh (fA_switch A h x y z) := sh_god (sh_mA (sh_chg (sh_cA hs)))
theorem Tn_switch (hTX : TXp TX) (wf : WF A) (tn : Tn TX A h 1 84 0) (hn : A 247 < 24) (hx : x < 256) (hy : y < 256) (hz : z < 256) : Tn TX (up4 A 90 247 x y z) (fA_switch A h x y z) 1 84 0 := by
  obtain ⟨q1, q2, q3, q4, q5, q6, q7, q8⟩ := tn
  have pm : ∀ j, ah_i (fA_switch A h x y z) 84 j = if j = 247 then nI (A 247 + 1) else if j = 90 + 3 * A 247 then nI x else if j = 90 + (3 * A 247 + 1) then nI y else if j = 90 + (3 * A 247 + 2) then nI z else ah_i h 84 j := fun j => by
    rw [god_i (by decide), mA_i, chg_i (by decide), cA_i (by decide) (by decide)]
  have o : ot (fun a => a = 6 ∨ a = 7) (fun j => j = 247 ∨ (90 ≤ j ∧ j < 162)) A (up4 A 90 247 x y z) h (fA_switch A h x y z) := by
    refine ⟨fun a h1 h2 h3 => fe_switch (by omega) (by omega) (by omega) (by omega) (by omega), fun a h1 => fe_switch (by omega) (by omega) (by omega) (by omega) (by omega), x_switch, fun j hj hJ => ⟨?_, up4_n (by omega) (by omega)⟩⟩
    rw [pm, if_neg (by omega), if_neg (by omega), if_neg (by omega), if_neg (by omega)]
  have pt : ∀ j, ah_i (fA_switch A h x y z) 6 j = if j = 3 then nI (A 247 + 1) else ah_i h 6 j := fun j => by
    rw [god_i (by decide), mA_n (by decide), chg_i (by decide), cA_t]
  have pc : ∀ j, ah_i (fA_switch A h x y z) (6 + 1) j = if j = A 247 * 3 then nI x else if j = A 247 * 3 + 1 then nI y else if j = A 247 * 3 + 2 then nI z else ah_i h (6 + 1) j := fun j => by
    rw [god_i (by decide), mA_n (by decide), chg_i (by decide), cA_c]
  exact ⟨ot_3 o (by omega) (by omega) (by omega) (by omega) (by omega) (by omega) (fun j hj => by omega) q1,
    ot_3 o (by omega) (by omega) (by omega) (by omega) (by omega) (by omega) (fun j hj => by omega) q2,
    cp3_add (h := h) (by omega) (by omega) (by omega) hn hx hy hz pt pc pm q3,
    ot_L o wf.2.2.2.1 (by omega) (by omega) (fun j hj => by omega) q4,
    ot_3 o (by omega) (by omega) (by omega) (by omega) (by omega) (by omega) (fun j hj => by omega) q5,
    ot_3 o (by omega) (by omega) (by omega) (by omega) (by omega) (by omega) (fun j hj => by omega) q6,
    ot_T o (by omega) (fun j hj => by omega) q7,
    ot_W o hTX wf.2.2.2.2.2.2.2 (by omega) (by omega) (fun j hj => by omega) q8⟩
theorem tl_switch : tl h (fA_switch A h x y z) := tl_mk (by rw [x_cA]) x_mA (fun a h1 => cA_eq eqc_rfl (by omega) (by omega)) (fun j hj => by rw [cA_i (by decide) (by decide)]) (fun a h1 => mA_eq eqc_rfl h1)
theorem f18_switch : ah_i (fA_switch A h x y z) 0 18 = ah_i h 0 18 := by
  rw [god_i (by decide), mA_n (by decide), chg_0, if_neg (by decide), if_neg (by decide), cA_i (by decide) (by decide)]
theorem rb_switch (hn : A 247 < 24) : rb A (up4 A 90 247 x y z) h (fA_switch A h x y z) := .inr ⟨f18_switch, fun j hj => up4_n (by omega) (by omega), up4_n (by omega) (by omega), up4_n (by omega) (by omega)⟩
abbrev fA_errand (A : Nat → Nat) (h : ah_T) (x y z : Nat) : ah_T := god (mA (chg (cA h 10 (A 249) x y z)) 200 249 (A 249) x y z)
theorem fe_errand {a : Nat} (h0 : a ≠ 0) (h1 : a ≠ 10) (h2 : a ≠ 11) (h3 : a ≠ 82) (h4 : a ≠ 84) : eqc h (fA_errand A h x y z) a := god_eq (mA_eq (chg_eq (cA_eq eqc_rfl h1 h2) h0) h4) h3
theorem x_errand : ah_x (fA_errand A h x y z) = ah_x h := by rw [x_god, x_mA, x_chg, x_cA]
theorem sh_errand (hs : Sh h) : Sh (fA_errand A h x y z) := sh_god (sh_mA (sh_chg (sh_cA hs)))
theorem Tn_errand (hTX : TXp TX) (wf : WF A) (tn : Tn TX A h 1 84 0) (hn : A 249 < 6) (hx : x < 256) (hy : y < 256) (hz : z < 256) : Tn TX (up4 A 200 249 x y z) (fA_errand A h x y z) 1 84 0 := by
  obtain ⟨q1, q2, q3, q4, q5, q6, q7, q8⟩ := tn
  have pm : ∀ j, ah_i (fA_errand A h x y z) 84 j = if j = 249 then nI (A 249 + 1) else if j = 200 + 3 * A 249 then nI x else if j = 200 + (3 * A 249 + 1) then nI y else if j = 200 + (3 * A 249 + 2) then nI z else ah_i h 84 j := fun j => by
    rw [god_i (by decide), mA_i, chg_i (by decide), cA_i (by decide) (by decide)]
  have o : ot (fun a => a = 10 ∨ a = 11) (fun j => j = 249 ∨ (200 ≤ j ∧ j < 218)) A (up4 A 200 249 x y z) h (fA_errand A h x y z) := by
    refine ⟨fun a h1 h2 h3 => fe_errand (by omega) (by omega) (by omega) (by omega) (by omega), fun a h1 => fe_errand (by omega) (by omega) (by omega) (by omega) (by omega), x_errand, fun j hj hJ => ⟨?_, up4_n (by omega) (by omega)⟩⟩
    rw [pm, if_neg (by omega), if_neg (by omega), if_neg (by omega), if_neg (by omega)]
  have pt : ∀ j, ah_i (fA_errand A h x y z) 10 j = if j = 3 then nI (A 249 + 1) else ah_i h 10 j := fun j => by
    rw [god_i (by decide), mA_n (by decide), chg_i (by decide), cA_t]
  have pc : ∀ j, ah_i (fA_errand A h x y z) (10 + 1) j = if j = A 249 * 3 then nI x else if j = A 249 * 3 + 1 then nI y else if j = A 249 * 3 + 2 then nI z else ah_i h (10 + 1) j := fun j => by
    rw [god_i (by decide), mA_n (by decide), chg_i (by decide), cA_c]
  exact ⟨ot_3 o (by omega) (by omega) (by omega) (by omega) (by omega) (by omega) (fun j hj => by omega) q1,
    ot_3 o (by omega) (by omega) (by omega) (by omega) (by omega) (by omega) (fun j hj => by omega) q2,
    ot_3 o (by omega) (by omega) (by omega) (by omega) (by omega) (by omega) (fun j hj => by omega) q3,
    ot_L o wf.2.2.2.1 (by omega) (by omega) (fun j hj => by omega) q4,
    cp3_add (h := h) (by omega) (by omega) (by omega) hn hx hy hz pt pc pm q5,
    ot_3 o (by omega) (by omega) (by omega) (by omega) (by omega) (by omega) (fun j hj => by omega) q6,
    ot_T o (by omega) (fun j hj => by omega) q7,
    ot_W o hTX wf.2.2.2.2.2.2.2 (by omega) (by omega) (fun j hj => by omega) q8⟩
theorem tl_errand : tl h (fA_errand A h x y z) := tl_mk (by rw [x_cA]) x_mA (fun a h1 => cA_eq eqc_rfl (by omega) (by omega)) (fun j hj => by rw [cA_i (by decide) (by decide)]) (fun a h1 => mA_eq eqc_rfl h1)
theorem f18_errand : ah_i (fA_errand A h x y z) 0 18 = ah_i h 0 18 := by
  rw [god_i (by decide), mA_n (by decide), chg_0, if_neg (by decide), if_neg (by decide), cA_i (by decide) (by decide)]
theorem rb_errand (hn : A 249 < 6) : rb A (up4 A 200 249 x y z) h (fA_errand A h x y z) := .inr ⟨f18_errand, fun j hj => up4_n (by omega) (by omega), up4_n (by omega) (by omega), up4_n (by omega) (by omega)⟩
abbrev fA_soot (A : Nat → Nat) (h : ah_T) (x y z : Nat) : ah_T := god (mA (chg (cA h 12 (A 250) x y z)) 218 250 (A 250) x y z)
theorem fe_soot {a : Nat} (h0 : a ≠ 0) (h1 : a ≠ 12) (h2 : a ≠ 13) (h3 : a ≠ 82) (h4 : a ≠ 84) : eqc h (fA_soot A h x y z) a := god_eq (mA_eq (chg_eq (cA_eq eqc_rfl h1 h2) h0) h4) h3
theorem x_soot : ah_x (fA_soot A h x y z) = ah_x h := by rw [x_god, x_mA, x_chg, x_cA]
theorem sh_soot (hs : Sh h) : Sh (fA_soot A h x y z) := sh_god (sh_mA (sh_chg (sh_cA hs)))
theorem Tn_soot (hTX : TXp TX) (wf : WF A) (tn : Tn TX A h 1 84 0) (hn : A 250 < 8) (hx : x < 256) (hy : y < 256) (hz : z < 256) : Tn TX (up4 A 218 250 x y z) (fA_soot A h x y z) 1 84 0 := by
  obtain ⟨q1, q2, q3, q4, q5, q6, q7, q8⟩ := tn
  have pm : ∀ j, ah_i (fA_soot A h x y z) 84 j = if j = 250 then nI (A 250 + 1) else if j = 218 + 3 * A 250 then nI x else if j = 218 + (3 * A 250 + 1) then nI y else if j = 218 + (3 * A 250 + 2) then nI z else ah_i h 84 j := fun j => by
    rw [god_i (by decide), mA_i, chg_i (by decide), cA_i (by decide) (by decide)]
  have o : ot (fun a => a = 12 ∨ a = 13) (fun j => j = 250 ∨ (218 ≤ j ∧ j < 242)) A (up4 A 218 250 x y z) h (fA_soot A h x y z) := by
    refine ⟨fun a h1 h2 h3 => fe_soot (by omega) (by omega) (by omega) (by omega) (by omega), fun a h1 => fe_soot (by omega) (by omega) (by omega) (by omega) (by omega), x_soot, fun j hj hJ => ⟨?_, up4_n (by omega) (by omega)⟩⟩
    rw [pm, if_neg (by omega), if_neg (by omega), if_neg (by omega), if_neg (by omega)]
  have pt : ∀ j, ah_i (fA_soot A h x y z) 12 j = if j = 3 then nI (A 250 + 1) else ah_i h 12 j := fun j => by
    rw [god_i (by decide), mA_n (by decide), chg_i (by decide), cA_t]
  have pc : ∀ j, ah_i (fA_soot A h x y z) (12 + 1) j = if j = A 250 * 3 then nI x else if j = A 250 * 3 + 1 then nI y else if j = A 250 * 3 + 2 then nI z else ah_i h (12 + 1) j := fun j => by
    rw [god_i (by decide), mA_n (by decide), chg_i (by decide), cA_c]
  exact ⟨ot_3 o (by omega) (by omega) (by omega) (by omega) (by omega) (by omega) (fun j hj => by omega) q1,
    ot_3 o (by omega) (by omega) (by omega) (by omega) (by omega) (by omega) (fun j hj => by omega) q2,
    ot_3 o (by omega) (by omega) (by omega) (by omega) (by omega) (by omega) (fun j hj => by omega) q3,
    ot_L o wf.2.2.2.1 (by omega) (by omega) (fun j hj => by omega) q4,
    ot_3 o (by omega) (by omega) (by omega) (by omega) (by omega) (by omega) (fun j hj => by omega) q5,
    cp3_add (h := h) (by omega) (by omega) (by omega) hn hx hy hz pt pc pm q6,
    ot_T o (by omega) (fun j hj => by omega) q7,
    ot_W o hTX wf.2.2.2.2.2.2.2 (by omega) (by omega) (fun j hj => by omega) q8⟩
theorem tl_soot : tl h (fA_soot A h x y z) := tl_mk (by rw [x_cA]) x_mA (fun a h1 => cA_eq eqc_rfl (by omega) (by omega)) (fun j hj => by rw [cA_i (by decide) (by decide)]) (fun a h1 => mA_eq eqc_rfl h1)
theorem f18_soot : ah_i (fA_soot A h x y z) 0 18 = ah_i h 0 18 := by
  rw [god_i (by decide), mA_n (by decide), chg_0, if_neg (by decide), if_neg (by decide), cA_i (by decide) (by decide)]
theorem rb_soot (hn : A 250 < 8) : rb A (up4 A 218 250 x y z) h (fA_soot A h x y z) := .inr ⟨f18_soot, fun j hj => up4_n (by omega) (by omega), up4_n (by omega) (by omega), up4_n (by omega) (by omega)⟩
end AD2
