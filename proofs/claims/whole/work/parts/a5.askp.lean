/-! ===== the class's question: its number, longs ===== -/
def kyc (u : Int32) (b : Nat) (v : Int) : Int := if bt u b = true then v else 0
def kyv (what : Nat) (u : Int32) (w : Nat → Int) : Int := (((((what * 12 + kyc u 0 (w 0 + 1)) * 8 + kyc u 1 (w 1)) * 8 + kyc u 2 (w 2 + 1)) * 16 + kyc u 3 (w 3 + 1)) * 4 + kyc u 4 (w 4 + 1)) * 128 + kyc u 5 (w 5)
def wRg (w : Nat → Int) : Prop := (-1 ≤ w 0 ∧ w 0 ≤ 10) ∧ (0 ≤ w 1 ∧ w 1 ≤ 7) ∧ (-1 ≤ w 2 ∧ w 2 ≤ 6) ∧ (-1 ≤ w 3 ∧ w 3 ≤ 14) ∧ (-1 ≤ w 4 ∧ w 4 ≤ 2) ∧ (0 ≤ w 5 ∧ w 5 ≤ 127)
theorem kyc_in {u : Int32} {b : Nat} {v m : Int} (h1 : 0 ≤ v) (h2 : v ≤ m) : 0 ≤ kyc u b v ∧ kyc u b v ≤ m := by unfold kyc; split <;> omega
theorem kyv_cs {w : Nat → Int} (wr : wRg w) (u : Int32) : (0 ≤ kyc u 0 (w 0 + 1) ∧ kyc u 0 (w 0 + 1) ≤ 11) ∧ (0 ≤ kyc u 1 (w 1) ∧ kyc u 1 (w 1) ≤ 7) ∧ (0 ≤ kyc u 2 (w 2 + 1) ∧ kyc u 2 (w 2 + 1) ≤ 7) ∧ (0 ≤ kyc u 3 (w 3 + 1) ∧ kyc u 3 (w 3 + 1) ≤ 15) ∧ (0 ≤ kyc u 4 (w 4 + 1) ∧ kyc u 4 (w 4 + 1) ≤ 3) ∧ (0 ≤ kyc u 5 (w 5) ∧ kyc u 5 (w 5) ≤ 127) := by
  obtain ⟨r0, r1, r2, r3, r4, r5⟩ := wr
  exact ⟨kyc_in (by omega) (by omega), kyc_in (by omega) (by omega), kyc_in (by omega) (by omega), kyc_in (by omega) (by omega), kyc_in (by omega) (by omega), kyc_in (by omega) (by omega)⟩
theorem kyv_in {what : Nat} {u : Int32} {w : Nat → Int} (hw : what < 3) (wr : wRg w) : 0 ≤ kyv what u w ∧ kyv what u w < 33554432 := by
  obtain ⟨r0, r1, r2, r3, r4, r5⟩ := kyv_cs wr u
  unfold kyv
  omega
theorem kyv_inj {what what' : Nat} {u u' : Int32} {w w' : Nat → Int} (wr : wRg w) (wr' : wRg w') (e : kyv what u w = kyv what' u' w') : what = what' ∧ (u = u' → ∀ k, k < 6 → bt u k = true → w k = w' k) := by
  obtain ⟨r0, r1, r2, r3, r4, r5⟩ := kyv_cs wr u
  obtain ⟨s0, s1, s2, s3, s4, s5⟩ := kyv_cs wr' u'
  unfold kyv at e
  have e5 : kyc u 5 (w 5) = kyc u' 5 (w' 5) := by omega
  have e4 : kyc u 4 (w 4 + 1) = kyc u' 4 (w' 4 + 1) := by omega
  have e3 : kyc u 3 (w 3 + 1) = kyc u' 3 (w' 3 + 1) := by omega
  have e2 : kyc u 2 (w 2 + 1) = kyc u' 2 (w' 2 + 1) := by omega
  have e1 : kyc u 1 (w 1) = kyc u' 1 (w' 1) := by omega
  have e0 : kyc u 0 (w 0 + 1) = kyc u' 0 (w' 0 + 1) := by omega
  refine ⟨by omega, fun q k hk b => ?_⟩
  subst q
  unfold kyc at e0 e1 e2 e3 e4 e5
  rcases (by omega : k = 0 ∨ k = 1 ∨ k = 2 ∨ k = 3 ∨ k = 4 ∨ k = 5) with z | z | z | z | z | z <;> subst z
  · rw [if_pos b, if_pos b] at e0; omega
  · rw [if_pos b, if_pos b] at e1; omega
  · rw [if_pos b, if_pos b] at e2; omega
  · rw [if_pos b, if_pos b] at e3; omega
  · rw [if_pos b, if_pos b] at e4; omega
  · rw [if_pos b, if_pos b] at e5; omega
theorem b_bit (x : Int32) (k : Nat) (hk : k < 32) : ((x >>> (nI k &&& 31)) &&& 1) = 0 ↔ bt x k = false := by
  have b1 : ∀ i, i < 32 → bt 1 i = decide (i = 0) := by decide +kernel
  constructor
  · intro e
    have := congrArg (fun y => bt y 0) e
    simp only [b_and, b_0] at this
    rw [b_sshr k hk x (by omega), b1 0 (by omega), if_pos (by omega), Nat.add_zero] at this
    cases z : bt x k
    · rfl
    · rw [z] at this; exact absurd this (by decide)
  · intro e
    refine b_ext fun i hi => ?_
    rw [b_and, b1 i hi, b_0]
    by_cases c : i = 0
    · subst c
      rw [b_sshr k hk x (by omega), if_pos (by omega), Nat.add_zero, e]
      rfl
    · rw [decide_eq_false c]
      cases bt (x >>> (nI k &&& 31)) i <;> rfl
/-! ## longs -/
theorem lN_of {X : Int64} {a : Nat} (h : X.toInt = a) (ha : a < 2 ^ 63) : X = Int64.ofNat a := Int64.toInt_inj.mp (by rw [h, Int64.toInt_ofNat_of_lt ha])
theorem lN_32 {b : Nat} (hb : b < 2 ^ 31) : (nI b).toInt64 = Int64.ofNat b := lN_of (by rw [Int32.toInt_toInt64, nI_toInt hb]) (by omega)
theorem lN_shor (a b s : Nat) (S : Int64) (hS : (S.toBitVec.smod 64).toNat = s) (hb : b < 2 ^ s) (h : a * 2 ^ s + b < 2 ^ 63) : (Int64.ofNat a <<< S) ||| Int64.ofNat b = Int64.ofNat (a * 2 ^ s + b) := by
  have p : 0 < 2 ^ s := Nat.two_pow_pos s
  have ha : a ≤ a * 2 ^ s := Nat.le_mul_of_pos_right a p
  refine Int64.toBitVec_inj.mp (BitVec.eq_of_toNat_eq ?_)
  rw [Int64.toBitVec_or, Int64.toBitVec_shiftLeft, BitVec.toNat_or, BitVec.shiftLeft_eq', BitVec.toNat_shiftLeft, hS]
  show ((a % 2 ^ 64) <<< s) % 2 ^ 64 ||| b % 2 ^ 64 = (a * 2 ^ s + b) % 2 ^ 64
  rw [Nat.mod_eq_of_lt (show a < 2 ^ 64 by omega), Nat.shiftLeft_eq, Nat.mod_eq_of_lt (show a * 2 ^ s < 2 ^ 64 by omega), Nat.mod_eq_of_lt (show b < 2 ^ 64 by omega), Nat.mod_eq_of_lt (show a * 2 ^ s + b < 2 ^ 64 by omega), ← Nat.shiftLeft_eq, Nat.shiftLeft_add_eq_or_of_lt hb]
theorem l_q25 {X : Int64} {a b : Nat} (hX : X.toInt = a) (ha : a < 2 ^ 31) (hb : b < 33554432) : ((X <<< ((25 : Int32).toInt64 &&& 63)) ||| (nI b).toInt64) = Int64.ofNat (a * 33554432 + b) := by
  rw [lN_of hX (by omega), lN_32 (by omega)]
  exact lN_shor a b 25 _ (by decide) (by omega) (by omega)
theorem l_q4 {a b : Nat} (ha : a < 2 ^ 57) (hb : b < 16) : ((Int64.ofNat a <<< ((4 : Int32).toInt64 &&& 63)) ||| (nI b).toInt64) = Int64.ofNat (a * 16 + b) := by
  rw [lN_32 (by omega)]
  exact lN_shor a b 4 _ (by decide) (by omega) (by omega)
theorem l_s4 {e : Nat} (he : e < 2 ^ 63) : (((Int64.ofNat e).toUInt64 >>> ((4 : Int32).toInt64.toUInt64 &&& Int64.toUInt64 63)).toInt64) = Int64.ofNat (e / 16) := by
  refine Int64.toBitVec_inj.mp (BitVec.eq_of_toNat_eq ?_)
  have e1 : ((((Int64.ofNat e).toUInt64 >>> ((4 : Int32).toInt64.toUInt64 &&& Int64.toUInt64 63)).toInt64).toBitVec).toNat = ((Int64.ofNat e).toUInt64 >>> ((4 : Int32).toInt64.toUInt64 &&& Int64.toUInt64 63)).toNat := rfl
  rw [e1, UInt64.toNat_shiftRight]
  show (e % 2 ^ 64) >>> 4 = (e / 16) % 2 ^ 64
  rw [Nat.mod_eq_of_lt (by omega), Nat.mod_eq_of_lt (by omega), Nat.shiftRight_eq_div_pow]
theorem l_15 {e : Nat} : (Int64.ofNat e).toInt32 &&& 15 = nI (e % 16) := by
  refine Int32.toBitVec_inj.mp (BitVec.eq_of_toNat_eq ?_)
  rw [Int32.toBitVec_and, BitVec.toNat_and]
  have e1 : ((Int64.ofNat e).toInt32).toBitVec.toNat = e % 2 ^ 32 := by
    rw [Int64.toBitVec_toInt32, BitVec.signExtend_eq_setWidth_of_le _ (by decide), BitVec.toNat_setWidth]
    show e % 2 ^ 64 % 2 ^ 32 = e % 2 ^ 32
    omega
  rw [e1]
  show (e % 2 ^ 32) &&& (2 ^ 4 - 1) = (e % 16) % 2 ^ 32
  rw [Nat.and_two_pow_sub_one_eq_mod]
  omega
theorem loN_eq {a b : Nat} (ha : a < 2 ^ 63) (hb : b < 2 ^ 63) : Int64.ofNat a = Int64.ofNat b ↔ a = b := by
  constructor
  · intro e
    have := congrArg Int64.toInt e
    rw [Int64.toInt_ofNat_of_lt ha, Int64.toInt_ofNat_of_lt hb] at this
    omega
  · intro e; rw [e]
theorem lg_0 {x y : Int64} : lg_cmp x y = 0 ↔ x = y := by
  unfold lg_cmp
  by_cases c : x > y
  · rw [if_pos c]
    refine ⟨fun q => absurd q (by decide), fun q => ?_⟩
    subst q
    exact absurd (Int64.lt_iff_toInt_lt.mp c) (by omega)
  · rw [if_neg c]
    by_cases c2 : x = y
    · rw [if_pos c2]; exact ⟨fun _ => c2, fun _ => rfl⟩
    · rw [if_neg c2]
      exact ⟨fun q => absurd q (by decide), fun q => absurd q c2⟩
theorem sh20 (y : Int32) : ∃ p, p < 4096 ∧ ((y.toUInt32 >>> ((20 : Int32).toUInt32 &&& Int32.toUInt32 31)).toInt32) = nI p := by
  refine ⟨y.toUInt32.toNat / 1048576, ?_, ?_⟩
  · have : y.toUInt32.toNat < 2 ^ 32 := UInt32.toNat_lt _
    omega
  · refine Int32.toBitVec_inj.mp (BitVec.eq_of_toNat_eq ?_)
    have e1 : (((y.toUInt32 >>> ((20 : Int32).toUInt32 &&& Int32.toUInt32 31)).toInt32).toBitVec).toNat = (y.toUInt32 >>> ((20 : Int32).toUInt32 &&& Int32.toUInt32 31)).toNat := rfl
    rw [e1, UInt32.toNat_shiftRight]
    have : y.toUInt32.toNat < 2 ^ 32 := UInt32.toNat_lt _
    show y.toUInt32.toNat >>> 20 = (y.toUInt32.toNat / 1048576) % 2 ^ 32
    rw [Nat.shiftRight_eq_div_pow, Nat.mod_eq_of_lt (by omega)]
/-! ## answers look at the words used -/
theorem ans_dep {cls : List Cl} {U : Int32} {what : Nat} {w w' : Nat → Int} (hd : ∀ cl ∈ cls, cl.1 = what → dpS cl.2.1 U ∧ dpT cl.2.2.2.2.2 U) (hL : ∀ cl ∈ cls, clL cl) (e : ∀ k, k < 8 → bt U k = true → w k = w' k) (d : Int) : tell9 what w cls d = tell9 what w' cls d := by
  refine tell9_eq cls d (fun c hc ec => ?_)
  obtain ⟨d1, d2⟩ := hd c hc ec
  obtain ⟨_, _, l3, l4⟩ := hL c hc
  have a1 : ∀ j, j < 13 → bt U j = true → w j = (fun k => if k < 8 then w' k else w k) j := by
    intro j _ b
    by_cases z : j < 8
    · show w j = if j < 8 then w' j else w j
      rw [if_pos z]; exact e j z b
    · show w j = if j < 8 then w' j else w j
      rw [if_neg z]
  have a2 : ∀ k, k < 8 → (fun k => if k < 8 then w' k else w k) k = w' k := fun k hk => if_pos hk
  refine hold_eq (fun m hm => ?_) (fun t ht => ?_)
  · rw [d1 m hm w _ a1, l3 m hm _ w' a2]
  · rw [d2 t ht w _ a1, l4 t ht _ w' a2]
