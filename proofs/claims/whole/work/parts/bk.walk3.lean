/-! ===== walks: the class finds one ===== -/
def lgt (g0 : Nat) (A : Nat → Nat) (u : ah_T) : Prop := cor g0 A u ∧ ah_i u 54 9 = 1 ∧ chR A u ∧ chL A u
def wkF (h g : ah_T) : Prop := Sh g ∧ ah_x g = ah_x h ∧ (∀ a, (a < 26 ∨ (28 < a ∧ a < 35) ∨ (35 < a ∧ a < 39) ∨ 61 < a) → eqc h g a) ∧ (∀ j, j ≠ 3 → j ≠ 9 → ah_i g 54 j = ah_i h 54 j) ∧ (wB h → wB g)
def fwG (A : Nat → Nat) (b : Bool) (f m : Nat) : Nat → Nat → Prop
  | 0, i => i = f
  | d + 1, i => arnd A (fwD A b f m d) i
def wkR (A : Nat → Nat) (b : Bool) (f m t : Nat) (h : ah_T) : Prop := ((∀ d, m + d < 120 → ¬ fwD A b f m d t) ∧ ah_i h 54 3 = -1) ∨ ∃ e, wkE A b f m t e ∧ ah_i h 54 3 = nI (m + e) ∧ ∀ j, j ≤ e → ah_i h 58 (m + j) = nI (wa A b f m t e j)
def wkK (f m t l : Nat) (h : ah_T) : Prop := ah_i h 60 0 = nI f ∧ ah_i h 60 1 = nI m ∧ ah_i h 60 2 = nI t ∧ ah_i h 60 3 = nI l
def wkX (A : Nat → Nat) (h : ah_T) : Prop := ah_i h 60 0 = -1 ∨ ∃ f m t l, f < 12 ∧ m < 120 ∧ t < 12 ∧ l < 2 ∧ wkK f m t l h ∧ wkR A (decide (l = 1)) f m t h
section WK3
variable {A : Nat → Nat} {h g h1 u : ah_T} {g0 n c f m t e d l : Nat} {b : Bool} {P P' : Nat → Prop}
theorem wkX_fr (q : ∀ a j, Cwk a j → ah_i g a j = ah_i h a j) (l : wkX A h) : wkX A g := by
  have e60 := fun j => q 60 j (.inr (.inr rfl))
  have e58 := fun j => q 58 j (.inr (.inl rfl))
  have e3 := q 54 3 (.inl ⟨rfl, rfl⟩)
  unfold wkX wkK wkR at l ⊢
  simp only [e60, e58, e3]
  exact l
theorem fwD_eq : ∀ d {i : Nat}, fwD A b f m d i ↔ fwG A b f m d i ∧ fnP A b (m + d) i
  | 0, _ => Iff.rfl
  | _ + 1, _ => Iff.rfl
theorem wkF_r (hs : Sh h) : wkF h h := ⟨hs, rfl, fun _ _ => eqc_rfl, fun _ _ _ => rfl, fun w => w⟩
theorem wkF_t (p : wkF h g) (q : wkF g h1) : wkF h h1 := ⟨q.1, by rw [q.2.1, p.2.1], fun a n => eqc_trans (p.2.2.1 a n) (q.2.2.1 a n), fun j n1 n2 => by rw [q.2.2.2.1 j n1 n2, p.2.2.2.1 j n1 n2], fun w => q.2.2.2.2 (p.2.2.2.2 w)⟩
theorem wkF_ch (p : chF h g) : wkF h g := ⟨p.1, p.2.1, fun a n => p.2.2.1 a (by omega), fun j _ n2 => p.2.2.2.1 j n2, p.2.2.2.2⟩
theorem wkF_s {a j : Nat} {x : Int32} (o : a = 58 ∨ a = 60 ∨ a = 61 ∨ (a = 54 ∧ j = 3)) (p : wkF h g) : wkF h (ah_si g a j x) := ⟨sh_si p.1, by rw [ah_x_si, p.2.1], fun b n => eqc_si (p.2.2.1 b n) (by omega), fun i n1 n2 => by rw [ah_i_sn (by omega)]; exact p.2.2.2.1 i n1 n2, fun w => wB_of (fun j => ah_i_sn (by omega)) (p.2.2.2.2 w)⟩
theorem lgt_x (q : ∀ a, a ≠ 54 → a ≠ 58 → a ≠ 60 → a ≠ 61 → eqc h g a) (e9 : ah_i g 54 9 = ah_i h 54 9) (hs : Sh g) (hx : ah_x g = ah_x h) (l : lgt g0 A h) : lgt g0 A g := ⟨cor_g (fun a ha => q a (by omega) (by omega) (by omega) (by omega)) (.inr trivial) hs hx l.1, by rw [e9]; exact l.2.1, chR_fr (fun a ha => (q a (by omega) (by omega) (by omega) (by omega)).1) l.2.2.1, chL_fr (q 59 (by decide) (by decide) (by decide) (by decide)).1 l.2.2.2⟩
theorem lgt_s {a j : Nat} {x : Int32} (o : a = 58 ∨ a = 60 ∨ a = 61 ∨ (a = 54 ∧ j = 3)) (hs : Sh h) (l : lgt g0 A h) : lgt g0 A (ah_si h a j x) := lgt_x (fun b n1 n2 n3 n4 => eqc_si eqc_rfl (by omega)) (ah_i_sn (by omega)) (sh_si hs) (ah_x_si _ _ _ _) l
theorem wkK_fr (q : ∀ j, ah_i g 60 j = ah_i h 60 j) (k : wkK f m t l h) : wkK f m t l g := by
  unfold wkK at k ⊢
  simp only [q]
  exact k
theorem c_findWalk {Q : Option Value → ah_T → Prop} (hs : Sh h) (lg : lgt g0 A h) (wx : wkX A h) (hf : f < 12) (hm : m < 120) (ht : t < 12) (hl : l < 2) {x1 x2 x3 x4 : Int32} (e1 : x1 = nI f) (e2 : x2 = nI m) (e3 : x3 = nI t) (e4 : x4 = nI l)
    (hq : ∀ g, wkF h g → lgt g0 A g → wkK f m t l g → wkR A (decide (l = 1)) f m t g → Q none g) : Mt mX0_findWalk [.ref 54, .int x1, .int x2, .int x3, .int x4] h Q := by
  subst e1 e2 e3 e4
  have z0 : Int32.toNatClampNeg 0 = 0 := rfl
  have z1 : Int32.toNatClampNeg 1 = 1 := rfl
  have z2 : Int32.toNatClampNeg 2 = 2 := rfl
  have z3 : Int32.toNatClampNeg 3 = 3 := rfl
  have w12 : ∀ v, v < A 245 → A (3 * v) < A (3 * v + 1) ∧ A (3 * v + 1) < 12 := fun v hv => (lg.1.2.2.2.2.1.2.2.2 v hv).2.2
  have n61 : ∀ {u : ah_T}, Sh u → ah_n u 61 = 120 := fun hs => sh_n hs 61 120 (by decide) (by decide) rfl
  obtain ⟨b, eb⟩ : ∃ b, b = decide (l = 1) := ⟨_, rfl⟩
  rw [← eb] at hq
  have gl12 : ∀ d i, fwG A b f m d i → i < 12 := by
    intro d i y
    cases d with
    | zero => have : i = f := y; omega
    | succ d => exact arnd_lt w12 (fun i y => fwD_lt y) y
  have one : nI l = 1 ↔ b = true := by rw [eb, decide_eq_true_eq, show (1 : Int32) = nI 1 from rfl, nI_eq (by omega) (by omega)]
  -- found
  have fnd : ∀ (e : Nat) (u : ah_T) (v : Int32), wkF h u → lgt g0 A u → wkK f m t l u → wkE A b f m t e → ah_i u 54 3 = nI (m + e) → (∀ j, j ≤ e → Sb (ah_i u 61 (m + j)) (fwD A b f m j)) → Wp mX0_findWalk Q 0 0 84 [some (.ref 54), none, some (.int (nI m)), some (.int (nI t)), some (.int (nI l)), some (.int v), some (.int (nI (m + e + 1)))] [] u := by
    intro e u v fu lu ku w i3 st
    have w120 := w.1
    have ne : ¬ nI (m + e) = -1 := nI_m1 (by omega)
    have lay : Mt mX0_layWalk [.ref 54, .int (nI m), .int (nI t)] u (ab_qv fun h67 => Sh h67 ∧ Q none h67) := by
      refine c_layWalk fu.1 lu.1.2.2.2.1.1 w12 w hf ht i3 st rfl rfl (fun g sg xg eg row => ⟨rfl, sg, ?_⟩)
      refine hq g (wkF_t fu ⟨sg, xg, fun a n => eg a (by omega) (by omega), fun j _ _ => (eg 54 (by decide) (by decide)).1 j, wB_of (eg 27 (by decide) (by decide)).1⟩) (lgt_x (fun a n1 n2 n3 n4 => eg a n2 n4) ((eg 54 (by decide) (by decide)).1 9) sg xg lu) (wkK_fr (eg 60 (by decide) (by decide)).1 ku) (.inr ⟨e, w, ?_, row⟩)
      rw [(eg 54 (by decide) (by decide)).1, i3]
    refine T_X0_findWalk_84 fu.1 _ _ _ _ _ ?_
    rw [i3]
    exact ⟨fun _ => ⟨fun y => absurd y ne, fun _ => lay⟩, fun _ => ⟨fun _ => ⟨fun y => absurd y ne, fun _ => lay⟩, fun y => absurd y ne⟩⟩
  -- minutes
  have lp : ∀ (q d : Nat) (u : ah_T) (v : Int32), m + d + q = 120 → wkF h u → lgt g0 A u → wkK f m t l u → ah_i u 54 3 = -1 → (∀ j, j < d → Sb (ah_i u 61 (m + j)) (fwD A b f m j)) → (∀ j, j < d → ¬ fwD A b f m j t) → (d = 0 → Sb v (fun i => i = f)) → (0 < d → Sb v (fwD A b f m (d - 1))) → Wp mX0_findWalk Q 0 0 84 [some (.ref 54), none, some (.int (nI m)), some (.int (nI t)), some (.int (nI l)), some (.int v), some (.int (nI (m + d)))] [] u := by
    intro q
    induction q with
    | zero =>
      intro d u v hd fu lu ku i3 st no v0 v1
      refine T_X0_findWalk_84 fu.1 _ _ _ _ _ ?_
      (first | refine ⟨fun _ => ?_, fun n_ => absurd (show 120 ≤ nI (m + d) from nI_le (a := 120) (by omega) (by omega)) n_⟩ | refine ⟨fun n_ => absurd (show 120 ≤ nI (m + d) from nI_le (a := 120) (by omega) (by omega)) n_, fun _ => ?_⟩ | refine ⟨fun y_ => absurd y_ (show 120 ≤ nI (m + d) from nI_le (a := 120) (by omega) (by omega)), fun _ => ?_⟩ | refine ⟨fun _ => ?_, fun y_ => absurd y_ (show 120 ≤ nI (m + d) from nI_le (a := 120) (by omega) (by omega))⟩)
      rw [i3]
      exact ⟨fun _ => hq u fu lu ku (.inl ⟨fun j hj => no j (by omega), i3⟩), fun y => absurd rfl y⟩
    | succ q ih =>
      intro d u v hd fu lu ku i3 st no v0 v1
      have vm : vp_in (nI (m + d)) 120 := (vp_nI (by omega)).mpr (by omega)
      refine T_X0_findWalk_84 fu.1 _ _ _ _ _ ?_
      (first | refine ⟨fun _ => ?_, fun n_ => absurd (show ¬ 120 ≤ nI (m + d) from nI_ge (b := 120) (by omega) (by omega)) n_⟩ | refine ⟨fun n_ => absurd (show ¬ 120 ≤ nI (m + d) from nI_ge (b := 120) (by omega) (by omega)) n_, fun _ => ?_⟩ | refine ⟨fun y_ => absurd y_ (show ¬ 120 ≤ nI (m + d) from nI_ge (b := 120) (by omega) (by omega)), fun _ => ?_⟩ | refine ⟨fun _ => ?_, fun y_ => absurd y_ (show ¬ 120 ≤ nI (m + d) from nI_ge (b := 120) (by omega) (by omega))⟩)
      rw [i3]
      refine ⟨fun y => absurd rfl y, fun _ => ?_⟩
      rw [nI_1, nI_clamp (show m + d < 2 ^ 31 by omega), nI_eq (show m + d < 2 ^ 31 by omega) (show m < 2 ^ 31 by omega)]
      have tail : ∀ (w : ah_T) (z : Int32), wkF u w → lgt g0 A w → (∀ j, ah_i w 60 j = ah_i u 60 j) → (∀ j, ah_i w 61 j = ah_i u 61 j) → ah_i w 54 3 = ah_i u 54 3 → Sb z (fwD A b f m d) → (vp_in (nI (m + d)) (ah_n w 61)) ∧ (∀ h84, h84 = ah_si w 61 (m + d) z → ((((z >>> (nI t &&& 31)) &&& 1) = 0 → Wp mX0_findWalk Q 0 0 84 [some (.ref 54), none, some (.int (nI m)), some (.int (nI t)), some (.int (nI l)), some (.int z), some (.int (nI (m + d + 1)))] [] h84) ∧ (¬ ((z >>> (nI t &&& 31)) &&& 1) = 0 → (∀ h88, h88 = ah_si h84 54 3 (nI (m + d)) → Wp mX0_findWalk Q 0 0 84 [some (.ref 54), none, some (.int (nI m)), some (.int (nI t)), some (.int (nI l)), some (.int z), some (.int (nI (m + d + 1)))] [] h88)))) := by
        intro w z fw lw q60 q61 q3 sz
        rw [n61 fw.1]
        refine ⟨vm, ?_⟩
        rintro h84 rfl
        rw [b_bit _ t (by omega)]
        have f84 := wkF_t fu (wkF_s (j := m + d) (x := z) (.inr (.inr (.inl rfl))) fw)
        have l84 := lgt_s (j := m + d) (x := z) (.inr (.inr (.inl rfl))) fw.1 lw
        have k84 : wkK f m t l (ah_si w 61 (m + d) z) := wkK_fr (fun j => by rw [ah_i_sn (by omega)]; exact q60 j) ku
        have st84 : ∀ j, j ≤ d → Sb (ah_i (ah_si w 61 (m + d) z) 61 (m + j)) (fwD A b f m j) := by
          intro j hj
          by_cases y : j = d
          · rw [y, ah_i_ss]; exact sz
          · rw [ah_i_sn (by omega), q61]; exact st j (by omega)
        refine ⟨fun y => ?_, fun y => ?_⟩
        · refine ih (d + 1) _ z (by omega) f84 l84 k84 (by rw [ah_i_sn (by omega), q3]; exact i3) (fun j hj => st84 j (by omega)) (fun j hj => ?_) (fun y => absurd y (by omega)) (fun _ => sz)
          by_cases x : j = d
          · subst x
            intro y2
            rw [(sz t (by omega)).mpr y2] at y
            exact absurd y (by decide)
          · exact no j (by omega)
        · rintro h88 rfl
          have yt : fwD A b f m d t := (sz t (by omega)).mp (by cases x : bt z t; exact absurd x y; rfl)
          exact fnd d _ z (wkF_s (.inr (.inr (.inr ⟨rfl, rfl⟩))) f84) (lgt_s (.inr (.inr (.inr ⟨rfl, rfl⟩))) f84.1 l84) (wkK_fr (fun j => ah_i_sn (by omega)) k84) ⟨by omega, yt, no⟩ (by rw [ah_i_ss]) (fun j hj => by rw [ah_i_sn (by omega)]; exact st84 j hj)
      -- the light
      have lit : ∀ (y : Int32), Sb y (fwG A b f m d) → ∀ (K : Int32 → ah_T → Prop), (∀ w r, wkF u w → lgt g0 A w → (∀ j, ah_i w 60 j = ah_i u 60 j) → (∀ j, ah_i w 61 j = ah_i u 61 j) → ah_i w 54 3 = ah_i u 54 3 → (b = true → Sb (y &&& r) (fwD A b f m d)) → (b = false → Sb (y &&& (r ^^^ (-1))) (fwD A b f m d)) → K r w) → Mt mX0_lightAt [.ref 54, .int (nI (m + d))] u (ab_qi fun r w => Sh w ∧ K r w) := by
        intro y sy K hK
        refine c_lightAt fu.1 lu.1 lu.2.1 lu.2.2.1 lu.2.2.2 rfl (by omega) (fun w r f1 c1 i1 r1 l1 bv => ⟨_, rfl, f1.1, hK w r (wkF_ch f1) ⟨c1, i1, r1, l1⟩ (f1.2.2.1 60 (by omega)).1 (f1.2.2.1 61 (by omega)).1 (f1.2.2.2.1 3 (by decide)) (fun ebt => ?_) (fun ebf => ?_)⟩)
        · refine Sb_iff (Sb_and sy bv) (fun i => ?_)
          rw [fwD_eq]
          unfold fnP
          rw [ebt]
        · intro i hi
          rw [b_and, b_not _ hi, Bool.and_eq_true, Bool.not_eq_true', sy i hi, fwD_eq]
          unfold fnP
          rw [ebf]
          constructor
          · rintro ⟨y1, y2⟩
            have i12 := gl12 d i (by rw [ebf]; exact y1)
            refine ⟨y1, i12, ?_⟩
            cases x : brP A (nd0 A) (litM A (nd0 A) (m + d)) (m + d) i
            · rfl
            · rw [(bv i hi).mpr ⟨i12, x⟩] at y2; exact absurd y2 (by decide)
          · rintro ⟨y1, y2, y3⟩
            refine ⟨y1, ?_⟩
            cases x : bt r i
            · rfl
            · rw [((bv i hi).mp x).2] at y3; exact absurd y3 (by decide)
      have bf : ¬ nI l = 1 → b = false := fun y => by cases x : b; rfl; exact absurd (one.mpr x) y
      refine ⟨fun y => ?_, fun y => ?_⟩
      · obtain ⟨d', rfl⟩ : ∃ d', d = d' + 1 := ⟨d - 1, by omega⟩
        have v1' := v1 (by omega)
        rw [Nat.add_sub_cancel] at v1'
        refine c_around fu.1 lu.1.2.2.2.1.1 v1' (fun i y => fwD_lt y) (fun r sr => ⟨_, rfl, fu.1, ?_⟩)
        refine ⟨fun o => ?_, fun o => ?_⟩
        · exact lit r sr _ (fun w z fw lw q60 q61 q3 _ sf => tail w _ fw lw q60 q61 q3 (sf (bf o)))
        · exact lit r sr _ (fun w z fw lw q60 q61 q3 sT _ => tail w _ fw lw q60 q61 q3 (sT (one.mp o)))
      · have d0 : d = 0 := by omega
        subst d0
        refine ⟨fun o => ?_, fun o => ?_⟩
        · exact lit v (v0 rfl) _ (fun w z fw lw q60 q61 q3 _ sf => tail w _ fw lw q60 q61 q3 (sf (bf o)))
        · exact lit v (v0 rfl) _ (fun w z fw lw q60 q61 q3 sT _ => tail w _ fw lw q60 q61 q3 (sT (one.mp o)))
  -- asked anew
  have anew : ∀ h2, h2 = ah_si h 60 0 (nI f) → ∀ h5, h5 = ah_si h2 60 1 (nI m) → ∀ h8, h8 = ah_si h5 60 2 (nI t) → ∀ h11, h11 = ah_si h8 60 3 (nI l) → ∀ h14, h14 = ah_si h11 54 3 (-1) → Wp mX0_findWalk Q 0 0 84 [some (.ref 54), none, some (.int (nI m)), some (.int (nI t)), some (.int (nI l)), some (.int ((1 : Int32) <<< (nI f &&& 31))), some (.int (nI m))] [] h14 := by
    rintro h2 rfl h5 rfl h8 rfl h11 rfl h14 rfl
    have o60 : ∀ {j : Nat}, (60 : Nat) = 58 ∨ (60 : Nat) = 60 ∨ (60 : Nat) = 61 ∨ ((60 : Nat) = 54 ∧ j = 3) := fun {j} => .inr (.inl rfl)
    refine lp (120 - m) 0 _ _ (by omega) (wkF_s (.inr (.inr (.inr ⟨rfl, rfl⟩))) (wkF_s o60 (wkF_s o60 (wkF_s o60 (wkF_s o60 (wkF_r hs)))))) (lgt_s (.inr (.inr (.inr ⟨rfl, rfl⟩))) hs (lgt_s o60 hs (lgt_s o60 hs (lgt_s o60 hs (lgt_s o60 hs lg))))) ⟨?_, ?_, ?_, ?_⟩ (by rw [ah_i_ss]) (fun j hj => absurd hj (by omega)) (fun j hj => absurd hj (by omega)) (fun _ => Sb_1 (by omega)) (fun y => absurd y (by omega))
    · rw [ah_i_sn (by omega), ah_i_sn (by omega), ah_i_sn (by omega), ah_i_sn (by omega), ah_i_ss]
    · rw [ah_i_sn (by omega), ah_i_sn (by omega), ah_i_sn (by omega), ah_i_ss]
    · rw [ah_i_sn (by omega), ah_i_sn (by omega), ah_i_ss]
    · rw [ah_i_sn (by omega), ah_i_ss]
  refine T_X0_findWalk hs _ _ _ _ ?_
  rw [z0, z1, z2, z3]
  refine ⟨fun _ => anew, fun y0 => ⟨fun _ => anew, fun y1 => ⟨fun _ => anew, fun y2 => ⟨fun _ => anew, fun y3 => ?_⟩⟩⟩⟩
  rcases wx with w | ⟨f', m', t', l', a1, a2, a3, a4, ⟨b1, b2, b3, b4⟩, b5⟩
  · rw [w] at y0
    exact absurd y0.symm (nI_m1 (by omega))
  · rw [b1, nI_eq (by omega) (by omega)] at y0
    rw [b2, nI_eq (by omega) (by omega)] at y1
    rw [b3, nI_eq (by omega) (by omega)] at y2
    rw [b4, nI_eq (by omega) (by omega)] at y3
    subst y0 y1 y2 y3
    rw [← eb] at b5
    exact hq h (wkF_r hs) lg ⟨b1, b2, b3, b4⟩ b5
end WK3
