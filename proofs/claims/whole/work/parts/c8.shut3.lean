/-! ===== shutters: the class learns of lamps, of lanterns ===== -/
section LO
variable {A : Nat → Nat} {h g u : ah_T} {m l o k v a b n g0 kl kx la p : Nat} {N : Nd} {S : Ns} {fr : Nat → Bool}
theorem lnF_i (f : lnF h g) (ha : a ≠ 26 ∧ a ≠ 27 ∧ a ≠ 28 ∧ a ≠ 39 ∧ a ≠ 79) (j : Nat) : ah_i g a j = ah_i h a j := (f.2.2.1 a ha.1 ha.2.1 ha.2.2.1 ha.2.2.2.1 ha.2.2.2.2).1 j
theorem cNS_ln (f : lnF h g) (n : cNS N S fr h) : cNS N S fr g := cNS_fr (fun a ha j => lnF_i f (by omega) j) (fun j _ => lnF_i f (by omega) j) n
/-- all that is learnt of a pair -/
def lrS (A : Nat → Nat) (h : ah_T) (a b : Nat) (qv : Nat → Prop) (g : ah_T) : Prop := (∀ v, poS A a b v → qv v → bt (ah_i g 79 (12 * a + b)) v = true) ∧ ∀ j i, i < 32 → bt (ah_i g 79 j) i = true → bt (ah_i h 79 j) i = true ∨ (j = 12 * a + b ∧ poS A a b i ∧ qv i)
theorem poS_12 {x9 : Int32} (d : dst (Ew A (shS A)) a b x9) (y : poS A a b v) : v < 13 := by
  obtain ⟨_, d2, _⟩ := sgN_d d
  rcases y with y | ⟨_, _, y | y⟩ <;> omega
theorem c_lrnE {Q : Option Value → ah_T → Prop} (hs : Sh h) (c : cor g0 A h) (ha : a < 12) (hb : b < 12) (hl : l < 10) (hkl : kl < 6) (hkx : kx < 6) (hla : la < 2) (hm : m < 120) (k45 : ah_i h 45 l = nI kl) (hq : ∀ g, lnF h g → cor g0 A g → lrS A h a b (qvS A l kl kx m la) g → Q none g) : Wp mX4_learn Q 0 0 71 [some (.ref 74), some (.int (nI l)), none, some (.int (nI kx)), none, some (.int (nI m)), some (.int (nI (12 * a + b))), some (.int (nI la)), some (.int ((f_X4_possibleSights h (nI (12 * a + b))) &&& ((ah_i h 79 (12 * a + b)) ^^^ (-1)))), some (.int (-1))] [] h := by
  have dd := c.2.2.2.1.2.2.2.1 a b ha hb
  have ps := f_ps dd ha hb
  have ub : ∀ i, i < 32 → (bt ((f_X4_possibleSights h (nI (12 * a + b))) &&& ((ah_i h 79 (12 * a + b)) ^^^ (-1))) i = true ↔ poS A a b i ∧ bt (ah_i h 79 (12 * a + b)) i = false) := fun i hi => by
    rw [b_and, b_not _ hi, Bool.and_eq_true, ps i hi, Bool.not_eq_true']
  refine c_lrn71 (h := h) (p := 12 * a + b) hl hkl hkx hla hm (by omega) k45 (fun g fg cg kn sd => hq g fg cg ⟨fun v y1 y2 => ?_, fun j i hi y => ?_⟩) 13 0 h rfl (lnF_r hs) c (fun v hv => absurd hv (Nat.not_lt_zero _)) (fun j i _ y => .inl y)
  · have v13 := poS_12 dd y1
    cases e : bt (ah_i h 79 (12 * a + b)) v
    · exact kn v v13 ((ub v (by omega)).mpr ⟨y1, e⟩) y2
    · exact fg.2.2.2.2 _ v (by omega) e
  · rcases sd j i hi y with z | ⟨z1, z2, z3⟩
    · exact .inl z
    · exact .inr ⟨z1, ((ub i hi).mp z2).1, z3⟩
theorem c_learnL {Q : Option Value → ah_T → Prop} {x1 x2 x3 x4 x5 : Int32} (hs : Sh h) (c : cor g0 A h) (n : cNS (nd0 A) S fr h) (e1 : x1 = nI l) (e2 : x2 = nI o) (e3 : x3 = nI (A (61 + 3 * o))) (e4 : x4 = nI (A (60 + 3 * o))) (e5 : x5 = nI m) (hl : l < A 246) (ho : o < A 246) (bl : S.bu l = true) (bo : S.bu o = true) (hm : m < 120) (hq : ∀ g, lnF h g → cor g0 A g → lrS A h (A (60 + 3 * l)) (A (60 + 3 * o)) (qvS A l (A (61 + 3 * l)) (A (61 + 3 * o)) m (qla S l o)) g → Q none g) : Mt mX4_learn [.ref 74, .int x1, .int x2, .int x3, .int x4, .int x5] h Q := by
  subst e1 e2 e3 e4 e5
  have d := c.2.2.1
  obtain ⟨wd, nf, d1, d2, d3, d4, d5, d6⟩ := d
  have w10 : A 246 ≤ 10 := wd.1
  obtain ⟨ca, ka⟩ := wd.2.1 l hl
  obtain ⟨cb', kb⟩ := wd.2.1 o ho
  have ca' : A (60 + 3 * l) < 12 := ca
  have ka' : A (61 + 3 * l) < 6 := ka
  have cb2 : A (60 + 3 * o) < 12 := cb'
  have kb' : A (61 + 3 * o) < 6 := kb
  obtain ⟨i44, i45⟩ := d4 l hl
  have i44' : ah_i h 44 l = nI (A (60 + 3 * l)) := i44
  have i45' : ah_i h 45 l = nI (A (61 + 3 * l)) := i45
  have sl : ah_i h 47 l = nI (S.si l) := (n.2.2.2.2.2 l hl).2.1 bl
  have so : ah_i h 47 o = nI (S.si o) := (n.2.2.2.2.2 o ho).2.1 bo
  have l1 := (n.1 l hl).1
  have o1 := (n.1 o ho).1
  have n44 := sh_n hs 44 10 (by decide) (by decide) rfl
  have n47 := sh_n hs 47 10 (by decide) (by decide) rfl
  have n79 := sh_n hs 79 144 (by decide) (by decide) rfl
  have vl : vp_in (nI l) 10 := (vp_nI (by omega)).mpr (by omega)
  have vo : vp_in (nI o) 10 := (vp_nI (by omega)).mpr (by omega)
  have cl : Int32.toNatClampNeg (nI l) = l := nI_clamp (by omega)
  have co : Int32.toNatClampNeg (nI o) = o := nI_clamp (by omega)
  have ep : nI (A (60 + 3 * l)) * 12 + nI (A (60 + 3 * o)) = nI (12 * A (60 + 3 * l) + A (60 + 3 * o)) := by
    rw [show (12 : Int32) = nI 12 from rfl, nI_mul, nI_add, Nat.mul_comm]
  have fin := c_lrnE (Q := Q) (l := l) (kl := A (61 + 3 * l)) (kx := A (61 + 3 * o)) (la := qla S l o) (m := m) hs c ca' cb2 (by omega) ka' kb' (by show (if _ then 1 else 0) < 2; split <;> omega) hm i45' hq
  have vps := v_ps hs ca' cb2
  have v79 : vp_in (nI (12 * A (60 + 3 * l) + A (60 + 3 * o))) 144 := (vp_nI (by omega)).mpr (by omega)
  have c79 : Int32.toNatClampNeg (nI (12 * A (60 + 3 * l) + A (60 + 3 * o))) = 12 * A (60 + 3 * l) + A (60 + 3 * o) := nI_clamp (by omega)
  refine T_X4_learn hs _ _ _ _ _ ?_
  rw [n44, n47, cl, co, sl, so, i44', ep, n79, c79]
  refine ⟨vl, fun y => absurd y (nI_m1 (by omega)), fun _ => ⟨vl, vo, fun y => ⟨vps, v79, ?_⟩, fun y => ⟨vps, v79, ?_⟩⟩⟩
  · have e : qla S l o = 0 := if_neg (fun z => absurd y (nI_ge z (by omega)))
    rw [e] at fin
    exact fin
  · have e : qla S l o = 1 := if_pos (by
      rcases Nat.lt_or_ge (S.si o) (S.si l) with z | z
      · exact z
      · exact absurd (nI_le z (by omega)) y)
    rw [e] at fin
    exact fin
theorem c_learnK {Q : Option Value → ah_T → Prop} {x1 x3 x4 x5 : Int32} (hs : Sh h) (c : cor g0 A h) (e1 : x1 = nI l) (e3 : x3 = nI kx) (e4 : x4 = nI b) (e5 : x5 = nI m) (hl : l < A 246) (hkx : kx < 6) (hb : b < 12) (hm : m < 120) (hq : ∀ g, lnF h g → cor g0 A g → lrS A h (A (60 + 3 * l)) b (qvS A l (A (61 + 3 * l)) kx m 1) g → Q none g) : Mt mX4_learn [.ref 74, .int x1, .int (-1), .int x3, .int x4, .int x5] h Q := by
  subst e1 e3 e4 e5
  have d := c.2.2.1
  obtain ⟨wd, nf, d1, d2, d3, d4, d5, d6⟩ := d
  have w10 : A 246 ≤ 10 := wd.1
  obtain ⟨ca, ka⟩ := wd.2.1 l hl
  have ca' : A (60 + 3 * l) < 12 := ca
  have ka' : A (61 + 3 * l) < 6 := ka
  obtain ⟨i44, i45⟩ := d4 l hl
  have i44' : ah_i h 44 l = nI (A (60 + 3 * l)) := i44
  have i45' : ah_i h 45 l = nI (A (61 + 3 * l)) := i45
  have n44 := sh_n hs 44 10 (by decide) (by decide) rfl
  have n79 := sh_n hs 79 144 (by decide) (by decide) rfl
  have vl : vp_in (nI l) 10 := (vp_nI (by omega)).mpr (by omega)
  have cl : Int32.toNatClampNeg (nI l) = l := nI_clamp (by omega)
  have ep : nI (A (60 + 3 * l)) * 12 + nI b = nI (12 * A (60 + 3 * l) + b) := by
    rw [show (12 : Int32) = nI 12 from rfl, nI_mul, nI_add, Nat.mul_comm]
  have fin := c_lrnE (Q := Q) (l := l) (kl := A (61 + 3 * l)) (kx := kx) (la := 1) (m := m) hs c ca' hb (by omega) ka' hkx (by omega) hm i45' hq
  have vps := v_ps hs ca' hb
  have v79 : vp_in (nI (12 * A (60 + 3 * l) + b)) 144 := (vp_nI (by omega)).mpr (by omega)
  have c79 : Int32.toNatClampNeg (nI (12 * A (60 + 3 * l) + b)) = 12 * A (60 + 3 * l) + b := nI_clamp (by omega)
  refine T_X4_learn hs _ _ _ _ _ ?_
  rw [n44, cl, i44', ep, n79, c79]
  exact ⟨vl, fun _ => ⟨vps, v79, fin⟩, fun y => absurd rfl y⟩
end LO
