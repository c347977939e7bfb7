/-! ===== what a law is on both sides; the model lays it ===== -/
theorem tx_fr {h h' : ah_T} {x : Nat} {ro : Bool} {cls : List Cl} (e : ∀ i, i < 4 → eqc h h' (x + i)) (hx : ah_x h ≤ ah_x h') (t : tx h x ro cls) : tx h' x ro cls := by
  obtain ⟨⟨t1, t2, t3, t4, t5, t6⟩, t7, t8, t9, t10, t11, t12, t13, c, q, t14, t15, t16, t17⟩ := t
  have e0 : eqc h h' x := e 0 (by omega)
  have e1 := e 1 (by omega)
  have e2 := e 2 (by omega)
  have e3 := e 3 (by omega)
  refine ⟨⟨t1, by omega, by rw [e0.2.2.2.1]; exact t3, by rw [e1.2.2.2.1]; exact t4, by rw [e2.2.2.2.1]; exact t5, by rw [e3.2.2.2.1]; exact t6⟩, by rw [e0.2.2.1]; exact t7, by rw [e0.2.2.1]; exact t8, by rw [e0.2.2.1]; exact t9, by rw [e0.1]; exact t10, t11, by rw [e2.2.2.2.2]; exact t12, by rw [e3.2.2.2.2]; exact t13, c, q, t14, by rw [e1.2.2.2.2]; exact t15, fun k hk => by rw [e1.1]; exact t16 k hk, fun k hk => ?_⟩
  have f1 : (fun j => ah_i h' (x + 2) (6 * k + j)) = fun j => ah_i h (x + 2) (6 * k + j) := funext fun j => e2.1 _
  have f2 : (fun v => ah_i h' (x + 3) v) = fun v => ah_i h (x + 3) v := funext fun v => e3.1 _
  rw [f1, f2]
  exact t17 k hk
def trn (n : Nat) (f : Nat → Nat) : Nat → Nat := fun k => if k < n then f k else 0
theorem trn_eq {n : Nat} {f g : Nat → Nat} (h : ∀ k, k < n → f k = g k) : trn n f = trn n g := funext fun k => by
  unfold trn
  by_cases c : k < n
  · rw [if_pos c, if_pos c, h k c]
  · rw [if_neg c, if_neg c]
/-- what a law's tokens say -/
def lwR (cs vs : Nat → Nat) (n : Nat) : pR (List Cl) := pTx (trn n cs) n (oneOf false (trn n cs) (trn n vs)) 12 [] 0 0
def TXm (h : ah_T) (x : Nat) (cs vs : Nat → Nat) (n : Nat) : Prop := (lwR cs vs n).1 = true ∧ tx h x false (lwR cs vs n).2.2.2
theorem TXmp : TXp TXm := by
  refine ⟨fun h h' x cs vs n q e hx => ⟨q.1, tx_fr e hx q.2⟩, fun h x cs vs n q => q.2.1, fun h x cs vs cs' vs' n e q => ?_⟩
  have e2 : lwR cs' vs' n = lwR cs vs n := by
    unfold lwR
    rw [trn_eq (fun k hk => (e k hk).1), trn_eq (fun k hk => (e k hk).2)]
  unfold TXm
  rw [e2]
  exact q
theorem lwR_D {D : Nat → Nat} {d : Nat} {cs vs : Nat → Nat} (h : ∀ k, k < tnO D d → cs k = csO D d k ∧ vs k = vsO D d k) : lwR cs vs (tnO D d) = txR false D d := by
  have e1 : trn (tnO D d) cs = csO D d := funext fun k => by
    unfold trn
    by_cases c : k < tnO D d
    · rw [if_pos c, (h k c).1]
    · rw [if_neg c, (csO_ge (by omega)).1]
  have e2 : trn (tnO D d) vs = vsO D d := funext fun k => by
    unfold trn
    by_cases c : k < tnO D d
    · rw [if_pos c, (h k c).2]
    · rw [if_neg c, (csO_ge (by omega)).2]
  unfold lwR txR
  rw [e1, e2]
/-! ## the model lays a text -/
def layA (t n : Nat) (cs vs A : Nat → Nat) : Nat → Nat := fun j => if j = 253 + t then n else if 260 + 400 * t ≤ j ∧ j < 260 + 400 * t + n then cs (j - (260 + 400 * t)) else if 3060 + 400 * t ≤ j ∧ j < 3060 + 400 * t + n then vs (j - (3060 + 400 * t)) else A j
def layI (t n : Nat) (cs vs : Nat → Nat) (f : Nat → Int32) : Nat → Int32 := fun j => if j = 253 + t then nI n else if 260 + 400 * t ≤ j ∧ j < 260 + 400 * t + n then nI (cs (j - (260 + 400 * t))) else if 3060 + 400 * t ≤ j ∧ j < 3060 + 400 * t + n then nI (vs (j - (3060 + 400 * t))) else f j
theorem m_lays {Q : Option Value → ah_T → Prop} {h : ah_T} (hs : Sh h) {t n : Nat} {cs vs : Nat → Nat} {x : Int32} (ex : x = nI t) (ht : t ≤ 6) (hn : n ≤ 400) (e16 : ah_i h 82 16 = nI n) (e : ∀ k, k < n → ah_i h 90 k = nI (cs k) ∧ ah_i h 91 k = nI (vs k))
    (hq : ∀ h', Sh h' → ah_x h' = ah_x h → (∀ a, a ≠ 84 → eqc h h' a) → (∀ j, ah_i h' 84 j = layI t n cs vs (ah_i h 84) j) → Q none h') : Mt mX12_lays [.ref 82, .int x] h Q := by
  subst ex
  have n90 : ∀ {h}, Sh h → ah_n h 90 = 401 := fun hs => sh_n hs 90 401 (by decide) (by decide) rfl
  have n91 : ∀ {h}, Sh h → ah_n h 91 = 401 := fun hs => sh_n hs 91 401 (by decide) (by decide) rfl
  have c253 : (253 : Int32) + nI t = nI (253 + t) := by rw [n_253, nI_add]
  refine T_X12_lays hs _ ?_
  rw [c253, nI_clamp (show 253 + t < 2 ^ 31 by omega), n84 hs, e16]
  refine ⟨(vp_nI (by omega)).mpr (by omega), ?_⟩
  rintro h2 rfl
  have lp : ∀ (q k : Nat) (g : ah_T), k + q = n → Sh g → ah_x g = ah_x h → (∀ a, a ≠ 84 → eqc h g a) → (∀ j, ah_i g 84 j = if j = 253 + t then nI n else if 260 + 400 * t ≤ j ∧ j < 260 + 400 * t + k then nI (cs (j - (260 + 400 * t))) else if 3060 + 400 * t ≤ j ∧ j < 3060 + 400 * t + k then nI (vs (j - (3060 + 400 * t))) else ah_i h 84 j) → Wp mX12_lays Q 0 0 16 [some (.ref 82), some (.int (nI t)), some (.int (nI k))] [] g := by
    intro q
    induction q with
    | zero =>
      intro k g hk hs hx he hi
      refine T_X12_lays_16 hs _ _ ?_
      rw [(he 82 (by decide)).1, e16]
      (first | refine ⟨fun _ => ?_, fun n_ => absurd (show nI n ≤ nI k from nI_le (by omega) (by omega)) n_⟩ | refine ⟨fun n_ => absurd (show nI n ≤ nI k from nI_le (by omega) (by omega)) n_, fun _ => ?_⟩ | refine ⟨fun y_ => absurd y_ (show nI n ≤ nI k from nI_le (by omega) (by omega)), fun _ => ?_⟩ | refine ⟨fun _ => ?_, fun y_ => absurd y_ (show nI n ≤ nI k from nI_le (by omega) (by omega))⟩)
      have : k = n := by omega
      subst this
      exact hq g hs hx he hi
    | succ q ih =>
      intro k g hk hs hx he hi
      refine T_X12_lays_16 hs _ _ ?_
      rw [(he 82 (by decide)).1, e16]
      (first | refine ⟨fun _ => ?_, fun n_ => absurd (show ¬ nI n ≤ nI k from nI_ge (by omega) (by omega)) n_⟩ | refine ⟨fun n_ => absurd (show ¬ nI n ≤ nI k from nI_ge (by omega) (by omega)) n_, fun _ => ?_⟩ | refine ⟨fun y_ => absurd y_ (show ¬ nI n ≤ nI k from nI_ge (by omega) (by omega)), fun _ => ?_⟩ | refine ⟨fun _ => ?_, fun y_ => absurd y_ (show ¬ nI n ≤ nI k from nI_ge (by omega) (by omega))⟩)
      obtain ⟨e1, e2⟩ := e k (by omega)
      have c1 : (260 : Int32) + 400 * nI t + nI k = nI (260 + 400 * t + k) := by rw [n_260, n_400, nI_mul, nI_add, nI_add]
      have c2 : (3060 : Int32) + 400 * nI t + nI k = nI (3060 + 400 * t + k) := by rw [n_3060, n_400, nI_mul, nI_add, nI_add]
      rw [c1, c2, nI_clamp (show k < 2 ^ 31 by omega), nI_clamp (show 260 + 400 * t + k < 2 ^ 31 by omega), nI_clamp (show 3060 + 400 * t + k < 2 ^ 31 by omega), (he 90 (by decide)).1, e1, n90 hs, n84 hs]
      refine ⟨(vp_nI (by omega)).mpr (by omega), (vp_nI (by omega)).mpr (by omega), ?_⟩
      rintro h8 rfl
      rw [ah_i_sn (by omega), (he 91 (by decide)).1, e2, ah_n_si, ah_n_si, n91 hs, n84 hs]
      refine ⟨(vp_nI (by omega)).mpr (by omega), (vp_nI (by omega)).mpr (by omega), ?_⟩
      rintro h13 rfl
      rw [nI_1]
      refine ih (k + 1) _ (by omega) (sh_si (sh_si hs)) (by rw [ah_x_si, ah_x_si, hx]) (fun a ha => eqc_si (eqc_si (he a ha) ha) ha) (fun j => ?_)
      rw [ah_i_si, ah_i_si, hi]
      by_cases z1 : j = 3060 + 400 * t + k
      · subst z1
        rw [if_pos ⟨rfl, rfl⟩, if_neg (by omega), if_neg (by omega), if_pos (by omega)]
        congr 2
        omega
      · rw [if_neg (fun y => z1 y.2)]
        by_cases z2 : j = 260 + 400 * t + k
        · subst z2
          rw [if_pos ⟨rfl, rfl⟩, if_neg (by omega), if_pos (by omega)]
          congr 2
          omega
        · rw [if_neg (fun y => z2 y.2)]
          by_cases z3 : j = 253 + t
          · rw [if_pos z3, if_pos z3]
          · rw [if_neg z3, if_neg z3]
            by_cases z4 : 260 + 400 * t ≤ j ∧ j < 260 + 400 * t + k
            · rw [if_pos z4, if_pos (by omega)]
            · rw [if_neg z4, if_neg (show ¬ (260 + 400 * t ≤ j ∧ j < 260 + 400 * t + (k + 1)) by omega)]
              by_cases z5 : 3060 + 400 * t ≤ j ∧ j < 3060 + 400 * t + k
              · rw [if_pos z5, if_pos (by omega)]
              · rw [if_neg z5, if_neg (by omega)]
  refine lp n 0 _ (by omega) (sh_si hs) (ah_x_si _ _ _ _) (fun a ha => eqc_si eqc_rfl ha) (fun j => ?_)
  rw [ah_i_si]
  by_cases z3 : j = 253 + t
  · rw [if_pos ⟨rfl, z3⟩, if_pos z3]
  · rw [if_neg (fun y => z3 y.2), if_neg z3, if_neg (by omega), if_neg (by omega)]
/-! ## the invariant behind a call that tells -/
def stayG (h : ah_T) (a : Nat) : Prop := a = 16 ∨ a = 19 ∨ (29 ≤ a ∧ a < 82) ∨ (85 ≤ a ∧ a ≤ 87) ∨ (95 ≤ a ∧ a ≤ 97) ∨ (109 ≤ a ∧ a ≤ 111) ∨ a = 122 ∨ (123 ≤ a ∧ a < ah_x h)
theorem inv_gen {TX : ah_T → Nat → (Nat → Nat) → (Nat → Nat) → Nat → Prop} {CC : (Nat → Nat) → ah_T → Prop} {CM : Nat → (Nat → Nat) → ah_T → Prop} {A A' B0 B1 : Nat → Nat} {h h2 : ah_T} {n d' : Nat} {D' : Nat → Nat} (hTX : TXp TX) (hCC : CCp CC) (hCM : CMp CM) (im : Im TX B0 B1 h) (dr : Dr h) (cc : CC A h) (cm : CM (n + 1) A h)
    (hs2 : Sh h2) (wf' : WF A') (tn' : Tn TX A' h2 1 84 0) (e : ∀ a, stayG h a → eqc h h2 a) (ex : ah_x h ≤ ah_x h2) (sc2 : Sc h2) (tp2 : Tp d' D' h2) (wb : wB h → wB h2) (f77 : ah_i h2 82 77 = ah_i h 82 77) (f19 : ah_i h2 0 19 = 1) (f18 : ah_i h2 0 18 = ah_i h 0 18) (hA : ∀ j, j < 90 → A' j = A j) (h5 : A' 245 = A 245) (h6 : A' 246 = A 246)
    (ver : ah_i h2 82 1 = ah_i h 82 1 + 1) (g82 : ∀ j, (j = 29 ∨ j = 49 ∨ j = 60 ∨ j = 61 ∨ j = 62) → ah_i h2 82 j = ah_i h 82 j) : Inv TX CC CM n h2 := by
  refine ⟨hs2, A', B0, B1, d', D', wf', tn', ?_, sc2, tp2, ?_, ?_, ?_⟩
  · exact Im_fr hTX (fun a h1 h2 => e a (by unfold stayG; omega)) (e 16 (by unfold stayG; omega)) (e 85 (by unfold stayG; omega)) (e 86 (by unfold stayG; omega)) ex im
  · unfold Dr
    rw [f77]
    simp only [(e 19 (by unfold stayG; omega)).1, (e 122 (by unfold stayG; omega)).1]
    exact dr
  · exact hCC.2.2 _ _ _ _ cc (agC_w (fun a h1 h2 => e a (by unfold stayG; omega)) (fun a h1 h2 => e a (by unfold stayG; omega)) ex wb) f18 f19 hA h5 h6
  · exact hCM.2.2 _ _ _ _ _ cm ⟨fun a ha => e a (by unfold stayG; omega), g82⟩ ver
