/-! ===== the class asks: the question's number, the state of its tempers ===== -/
section AS
variable {h : ah_T}
theorem nN_of {x : Int32} {v : Int} (e : x.toInt = v) (h0 : 0 ≤ v) : x = nI v.toNat := by
  refine Int32.toInt_inj.mp ?_
  have b2 := Int32.toInt_lt x
  rw [nI_toInt (by omega), e]
  omega
theorem d_of {u : Int32} {b : Nat} (hb : b < 32) {d x : Int32} {v : Int} (z0 : ((u >>> (nI b &&& 31)) &&& 1) = 0 → d = 0) (z1 : ¬ ((u >>> (nI b &&& 31)) &&& 1) = 0 → d = x) (e : x.toInt = v) (h0 : 0 ≤ v) : d = nI (kyc u b v).toNat := by
  unfold kyc
  by_cases c : bt u b = true
  · rw [if_pos c, z1 (fun y => by rw [(b_bit u b hb).mp y] at c; exact absurd c (by decide))]
    exact nN_of e h0
  · rw [if_neg c, z0 ((b_bit u b hb).mpr (by cases q : bt u b; rfl; exact absurd q c))]
    rfl
theorem p1_of {x : Int32} {v : Int} (e : x.toInt = v) (h0 : -1 ≤ v) (h1 : v < 1000) : (x + 1).toInt = v + 1 := by
  rw [Int32.toInt_add, e]
  show (v + 1).bmod (2 ^ 32) = v + 1
  rw [Int.bmod_def]
  omega
theorem c_keyOf {Q : Option Value → ah_T → Prop} (hs : Sh h) {x what : Nat} {cls : List Cl} {w : Nat → Int} {x1 : Int32} (e1 : x1 = nI what) (hw : what < 3) (e38 : ah_r h 38 3 = some x) (t : tx h x false cls) (ww : ∀ k, k < 8 → (ah_i h 27 k).toInt = w k) (wr : wRg w)
    (hq : Q (some (.int (nI (kyv what (ah_i h (x + 3) what) w).toNat))) h) : Mt mX8_keyOf [.ref 38, .int x1] h Q := by
  subst e1
  obtain ⟨⟨t1, t2, t3, t4, t5, t6⟩, t7, t8, t9, t10, t11, t12, t13, _⟩ := t
  refine T_X8_keyOf hs _ ⟨fun z => ?_, fun b2 z => ?_⟩
  · rw [e38] at z; cases z
  rw [e38] at z
  cases z
  refine ⟨t3, x + 3, t9, t6, by rw [t13]; exact (vp_nI (by omega)).mpr (by omega), ?_⟩
  rw [nI_clamp (show what < 2 ^ 31 by omega)]
  generalize ah_i h (x + 3) what = u at *
  have leaf : ∀ d0 d1 d2 d3 d4 d5 : Int32, (((u >>> (0 &&& 31)) &&& 1) = 0 → d0 = 0) → (¬ ((u >>> (0 &&& 31)) &&& 1) = 0 → d0 = ah_i h 27 (Int32.toNatClampNeg 0) + 1) → (((u >>> (1 &&& 31)) &&& 1) = 0 → d1 = 0) → (¬ ((u >>> (1 &&& 31)) &&& 1) = 0 → d1 = ah_i h 27 (Int32.toNatClampNeg 1)) → (((u >>> (2 &&& 31)) &&& 1) = 0 → d2 = 0) → (¬ ((u >>> (2 &&& 31)) &&& 1) = 0 → d2 = ah_i h 27 (Int32.toNatClampNeg 2) + 1) → (((u >>> (3 &&& 31)) &&& 1) = 0 → d3 = 0) → (¬ ((u >>> (3 &&& 31)) &&& 1) = 0 → d3 = ah_i h 27 (Int32.toNatClampNeg 3) + 1) → (((u >>> (4 &&& 31)) &&& 1) = 0 → d4 = 0) → (¬ ((u >>> (4 &&& 31)) &&& 1) = 0 → d4 = ah_i h 27 (Int32.toNatClampNeg 4) + 1) → (((u >>> (5 &&& 31)) &&& 1) = 0 → d5 = 0) → (¬ ((u >>> (5 &&& 31)) &&& 1) = 0 → d5 = ah_i h 27 (Int32.toNatClampNeg 5)) → Q (some (.int (((((((((((nI what * 12) + d0) * 8) + d1) * 8) + d2) * 16) + d3) * 4) + d4) * 128 + d5))) h := by
    intro d0 d1 d2 d3 d4 d5 a0 b0 a1 b1 a2 b2 a3 b3 a4 b4 a5 b5
    obtain ⟨r0, r1, r2, r3, r4, r5⟩ := wr
    have c0 := d_of (b := 0) (by omega) a0 b0 (p1_of (ww 0 (by omega)) (by omega) (by omega)) (by omega)
    have c1 := d_of (b := 1) (by omega) a1 b1 (ww 1 (by omega)) (by omega)
    have c2 := d_of (b := 2) (by omega) a2 b2 (p1_of (ww 2 (by omega)) (by omega) (by omega)) (by omega)
    have c3 := d_of (b := 3) (by omega) a3 b3 (p1_of (ww 3 (by omega)) (by omega) (by omega)) (by omega)
    have c4 := d_of (b := 4) (by omega) a4 b4 (p1_of (ww 4 (by omega)) (by omega) (by omega)) (by omega)
    have c5 := d_of (b := 5) (by omega) a5 b5 (ww 5 (by omega)) (by omega)
    have k := kyv_cs ⟨r0, r1, r2, r3, r4, r5⟩ u
    rw [c0, c1, c2, c3, c4, c5, show (12 : Int32) = nI 12 from rfl, show (8 : Int32) = nI 8 from rfl, show (16 : Int32) = nI 16 from rfl, show (4 : Int32) = nI 4 from rfl, show (128 : Int32) = nI 128 from rfl]
    simp only [nI_mul, nI_add]
    refine Eq.mp (congrArg (fun v => Q (some (.int (nI v))) h) ?_) hq
    unfold kyv
    omega
  clear hq ww wr
  refine ⟨fun z0 => ?_, fun z0 => ?_⟩ <;> refine ⟨fun z1 => ?_, fun z1 => ?_⟩ <;> refine ⟨fun z2 => ?_, fun z2 => ?_⟩ <;> refine ⟨fun z3 => ?_, fun z3 => ?_⟩ <;> refine ⟨fun z4 => ?_, fun z4 => ?_⟩ <;> refine ⟨fun z5 => ?_, fun z5 => ?_⟩ <;>
  exact leaf _ _ _ _ _ _ (fun y => by first | rfl | exact absurd y z0) (fun y => by first | rfl | exact absurd z0 y) (fun y => by first | rfl | exact absurd y z1) (fun y => by first | rfl | exact absurd z1 y) (fun y => by first | rfl | exact absurd y z2) (fun y => by first | rfl | exact absurd z2 y) (fun y => by first | rfl | exact absurd y z3) (fun y => by first | rfl | exact absurd z3 y) (fun y => by first | rfl | exact absurd y z4) (fun y => by first | rfl | exact absurd z4 y) (fun y => by first | rfl | exact absurd y z5) (fun y => by first | rfl | exact absurd z5 y)
/-! ## the state of the class's tempers -/
def ansV (cls : List Cl) (what : Nat) (w : Nat → Int) : Int := tell9 what w cls (if what = 0 then 0 else 1)
def lwO (L : Option (List Cl)) (h : ah_T) : Prop := match L with
  | none => ah_r h 38 3 = none
  | some cls => ∃ x, ah_r h 38 3 = some x ∧ tx h x false cls ∧ ∀ cl ∈ cls, clL cl
def mmO (L : Option (List Cl)) (wi mo g : Nat) (h : ah_T) : Prop := ∀ p, p < 4096 → ∃ e : Nat, ah_l h 39 p = Int64.ofNat e ∧ e < (g + 1) * 536870912 ∧ ∀ cls x, L = some cls → ah_r h 38 3 = some x → ∀ what w, what < 3 → wRg w → w 6 = wi → w 7 = mo → e / 16 = g * 33554432 + (kyv what (ah_i h (x + 3) what) w).toNat → ((e % 16 : Nat) : Int) = ansV cls what w
def tpO (L : Option (List Cl)) (wi mo g : Nat) (h : ah_T) : Prop := lwO L h ∧ ah_i h 38 4 = nI wi ∧ ah_i h 38 5 = nI mo ∧ (ah_l h 38 7).toInt = g ∧ wi ≤ 9 ∧ mo ≤ 9 ∧ mmO L wi mo g h
/-- what an answer of the class changes -/
def akF (h h' : ah_T) : Prop := Sh h' ∧ ah_x h' = ah_x h ∧ (∀ a, a ≠ 26 → a ≠ 27 → a ≠ 28 → a ≠ 39 → eqc h h' a) ∧ (wB h → wB h')
theorem akF_r (hs : Sh h) : akF h h := ⟨hs, rfl, fun _ _ _ _ _ => eqc_rfl, fun w => w⟩
theorem akF_t {h1 h2 : ah_T} (p : akF h h1) (q : akF h1 h2) : akF h h2 := ⟨q.1, by rw [q.2.1, p.2.1], fun a n1 n2 n3 n4 => eqc_trans (p.2.2.1 a n1 n2 n3 n4) (q.2.2.1 a n1 n2 n3 n4), fun w => q.2.2.2 (p.2.2.2 w)⟩
theorem tx_ak {h1 : ah_T} {x : Nat} {ro : Bool} {cls : List Cl} (p : akF h h1) (t : tx h x ro cls) : tx h1 x ro cls := tx_fr (fun i hi => by have := t.1.1; exact p.2.2.1 _ (by omega) (by omega) (by omega) (by omega)) (by rw [p.2.1]; exact Nat.le_refl _) t
theorem akF_m {h1 : ah_T} (m : mfr h h1) : akF h h1 := ⟨m.1, m.2.1, fun a n1 _ n3 _ => m.2.2.1 a n1 n3, wB_of (m.2.2.1 27 (by decide) (by decide)).1⟩
theorem tx_dep {x : Nat} {cls : List Cl} (t : tx h x false cls) (what : Nat) : ∀ cl ∈ cls, cl.1 = what → dpS cl.2.1 (ah_i h (x + 3) what) ∧ dpT cl.2.2.2.2.2 (ah_i h (x + 3) what) := by
  intro cl hc e
  obtain ⟨_, _, _, _, _, _, _, _, c, q, _, _, _, t17⟩ := t
  obtain ⟨k, hk, ek⟩ := List.getElem_of_mem hc
  have := t17 k hk
  rw [show cls.getD k cl0 = cl by rw [List.getD_eq_getElem?_getD, List.getElem?_eq_getElem hk, Option.getD_some, ek]] at this
  have := this.2.2.2.2.2.2.2 rfl
  rw [e] at this
  exact this
theorem ansV_in (cls : List Cl) (what : Nat) (w : Nat → Int) : 0 ≤ ansV cls what w ∧ ansV cls what w ≤ 9 := by
  unfold ansV
  exact tell9_in what w cls _ (by split <;> omega) (by split <;> omega)
end AS
