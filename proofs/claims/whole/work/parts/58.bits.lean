/-! ===== bits (the rows bt.. and bp_b are from the kit's BITS.to-paste) ===== -/
def bt (x : Int32) (i : Nat) : Bool := x.toBitVec.getLsbD i
theorem b_ext {x y : Int32} (h : ∀ i, i < 32 → bt x i = bt y i) : x = y := Int32.toBitVec_inj.mp (BitVec.eq_of_getLsbD_eq (fun i hi => h i hi))
theorem b_or (x y : Int32) (i : Nat) : bt (x ||| y) i = (bt x i || bt y i) := by unfold bt; rw [Int32.toBitVec_or, BitVec.getLsbD_or]
theorem b_and (x y : Int32) (i : Nat) : bt (x &&& y) i = (bt x i && bt y i) := by unfold bt; rw [Int32.toBitVec_and, BitVec.getLsbD_and]
theorem b_xor (x y : Int32) (i : Nat) : bt (x ^^^ y) i = (bt x i ^^ bt y i) := by unfold bt; rw [Int32.toBitVec_xor, BitVec.getLsbD_xor]
theorem b_big {x : Int32} {i : Nat} (h : 32 ≤ i) : bt x i = false := BitVec.getLsbD_of_ge _ _ h
theorem b_255 (i : Nat) : bt 255 i = decide (i < 8) := by
  rcases Nat.lt_or_ge i 32 with h | h
  · exact (by decide +kernel : ∀ i, i < 32 → bt 255 i = decide (i < 8)) i h
  · rw [b_big h, decide_eq_false (by omega)]
theorem b_65535 (i : Nat) : bt 65535 i = decide (i < 16) := by
  rcases Nat.lt_or_ge i 32 with h | h
  · exact (by decide +kernel : ∀ i, i < 32 → bt 65535 i = decide (i < 16)) i h
  · rw [b_big h, decide_eq_false (by omega)]
theorem b_m1 : ∀ i, i < 32 → bt (-1) i = true := by decide +kernel
theorem b_0 (i : Nat) : bt 0 i = false := BitVec.getLsbD_zero
theorem s_l : ∀ n, n < 32 → ((nI n &&& 31).toBitVec.smod 32).toNat = n := by decide +kernel
theorem s_u : ∀ n, n < 32 → (((nI n).toUInt32 &&& Int32.toUInt32 31).toBitVec % 32).toNat = n := by decide +kernel
theorem b_shl (n : Nat) (hn : n < 32) (x : Int32) {i : Nat} (hi : i < 32) : bt (x <<< (nI n &&& 31)) i = (decide (n ≤ i) && bt x (i - n)) := by
  unfold bt
  rw [Int32.toBitVec_shiftLeft]
  show (x.toBitVec <<< ((nI n &&& 31).toBitVec.smod 32).toNat).getLsbD i = _
  rw [s_l n hn, BitVec.getLsbD_shiftLeft]
  rcases Nat.lt_or_ge i n with h | h
  · simp [h, Nat.not_le.mpr h]
  · simp [hi, h, Nat.not_lt.mpr h]
theorem b_ushr (n : Nat) (hn : n < 32) (x : Int32) (i : Nat) : bt ((x.toUInt32 >>> ((nI n).toUInt32 &&& Int32.toUInt32 31)).toInt32) i = bt x (n + i) := by
  show (x.toUInt32 >>> ((nI n).toUInt32 &&& Int32.toUInt32 31)).toBitVec.getLsbD i = x.toUInt32.toBitVec.getLsbD (n + i)
  rw [UInt32.toBitVec_shiftRight]
  show (x.toUInt32.toBitVec >>> (((nI n).toUInt32 &&& Int32.toUInt32 31).toBitVec % 32).toNat).getLsbD i = _
  rw [s_u n hn, BitVec.getLsbD_ushiftRight]
theorem b_sshr (n : Nat) (hn : n < 32) (x : Int32) {i : Nat} (hi : i < 32) : bt (x >>> (nI n &&& 31)) i = if n + i < 32 then bt x (n + i) else bt x 31 := by
  unfold bt
  rw [Int32.toBitVec_shiftRight]
  show (x.toBitVec.sshiftRight ((nI n &&& 31).toBitVec.smod 32).toNat).getLsbD i = _
  rw [s_l n hn, BitVec.getLsbD_sshiftRight, BitVec.msb_eq_getLsbD_last]
  simp [hi]
theorem bp_b (x : Int32) : x.toInt8.toInt32 &&& 255 = x &&& 255 := by
  apply Int32.toBitVec_inj.mp
  rw [Int32.toBitVec_and, Int32.toBitVec_and, Int8.toBitVec_toInt32, Int32.toBitVec_toInt8]
  apply BitVec.eq_of_getLsbD_eq
  intro i hi
  rw [BitVec.getLsbD_and, BitVec.getLsbD_and]
  have hm : ∀ i < 32, 8 ≤ i → (255 : Int32).toBitVec.getLsbD i = false := by decide
  rcases Nat.lt_or_ge i 8 with z | z
  · rw [BitVec.getLsbD_signExtend, BitVec.getLsbD_signExtend, if_pos z, if_pos hi]
    simp only [z, hi, decide_true, Bool.true_and]
  · rw [hm i hi z]; simp
/-! ===== the char cast and 65535 ===== -/
theorem sB8 (t : Int8) : t.toInt32 = sB (t.toInt32 &&& 255).toNatClampNeg := by
  have h : ∀ k, k < 256 → (Int8.ofBitVec (BitVec.ofNat 8 k)).toInt32 = sB ((Int8.ofBitVec (BitVec.ofNat 8 k)).toInt32 &&& 255).toNatClampNeg := by decide +kernel
  have e : t = Int8.ofBitVec (BitVec.ofNat 8 t.toBitVec.toNat) := by
    apply Int8.toBitVec_inj.mp
    show t.toBitVec = BitVec.ofNat 8 t.toBitVec.toNat
    simp
  rw [e]
  exact h _ t.toBitVec.isLt
theorem b_of0 {x : Int32} (h : bt x 31 = false) : 0 ≤ x := by
  rw [Int32.le_iff_toInt_le]
  show 0 ≤ x.toBitVec.toInt
  have : x.toBitVec.msb = false := by rw [BitVec.msb_eq_getLsbD_last]; exact h
  rw [BitVec.toInt_eq_toNat_of_msb this]
  omega
theorem and255 (x : Int32) : ∃ b, b < 256 ∧ x &&& 255 = nI b := by
  have h0 : 0 ≤ x &&& 255 := b_of0 (by rw [b_and, b_255]; simp)
  obtain ⟨j, hj, e⟩ := nI_of (x := x &&& 255) (by grind)
  refine ⟨j, ?_, e⟩
  rcases Nat.lt_or_ge j 256 with q | q
  · exact q
  exfalso
  have h1 : ∀ i, 8 ≤ i → i < 32 → (nI j).toBitVec.getLsbD i = false := fun i h1 h2 => by
    have : bt (nI j) i = false := by rw [← e, b_and, b_255]; simp [h1]
    exact this
  have h2 : (nI j).toBitVec = BitVec.ofNat 32 j := rfl
  have h3 : j.testBit = fun i => (BitVec.ofNat 32 j).getLsbD i := by
    funext i
    rw [BitVec.getLsbD_ofNat]
    rcases Nat.lt_or_ge i 32 with z | z
    · simp [z]
    · have : j.testBit i = false := Nat.testBit_lt_two_pow (Nat.lt_of_lt_of_le hj (Nat.pow_le_pow_right (by decide) (by omega)))
      simp [this]
  obtain ⟨i, hi, hb⟩ := Nat.exists_ge_and_testBit_of_ge_two_pow (n := 8) (x := j) q
  have : (BitVec.ofNat 32 j).getLsbD i = true := by rw [← congrFun h3 i]; exact hb
  rcases Nat.lt_or_ge i 32 with z | z
  · rw [← h2, h1 i hi z] at this; exact absurd this (by decide)
  · rw [BitVec.getLsbD_of_ge _ _ z] at this; exact absurd this (by decide)
/-- a byte of four, as both sides take it -/
theorem byt (x : Int32) (s : Nat) (hs : s ≤ 24) : ∃ b, b < 256 ∧ ((x.toUInt32 >>> ((nI s).toUInt32 &&& Int32.toUInt32 31)).toInt32 &&& 255) = nI b ∧ vp_nar .byte ((x >>> (nI s &&& 31)).toInt8.toInt32) = sB b := by
  obtain ⟨b, hb, e⟩ := and255 (x >>> (nI s &&& 31))
  refine ⟨b, hb, ?_, ?_⟩
  · rw [← e]
    apply b_ext
    intro i hi
    rw [b_and, b_and, b_255, b_ushr s (by omega), b_sshr s (by omega) x hi]
    rcases Nat.lt_or_ge i 8 with z | z
    · rw [if_pos (by omega)]
    · simp [Nat.not_lt.mpr z]
  · have e2 : vp_nar .byte ((x >>> (nI s &&& 31)).toInt8.toInt32) = (x >>> (nI s &&& 31)).toInt8.toInt32 := by
      show ((x >>> (nI s &&& 31)).toInt8.toInt32).toInt8.toInt32 = _
      simp
    rw [e2, sB8, bp_b, e, nI_clamp (by omega)]
