/-! ===== how many bits: any twenty ===== -/
theorem an_sp {n a b c d : Nat} (ha : a < 2 ^ n) (hc : c < 2 ^ n) : (2 ^ n * b + a) &&& (2 ^ n * d + c) = 2 ^ n * (b &&& d) + (a &&& c) := by
  apply Nat.eq_of_testBit_eq
  intro i
  rw [Nat.testBit_and, Nat.testBit_two_pow_mul_add _ ha, Nat.testBit_two_pow_mul_add _ hc, Nat.testBit_two_pow_mul_add _ (Nat.and_lt_two_pow a hc)]
  by_cases z : i < n
  · rw [if_pos z, if_pos z, if_pos z, Nat.testBit_and]
  · rw [if_neg z, if_neg z, if_neg z, Nat.testBit_and]
def bcA (M X : Nat) : Nat := X - ((X / 2) &&& M)
def bcB (M X : Nat) : Nat := (X &&& M) + ((X / 4) &&& M)
def bcC (M X : Nat) : Nat := (X + X / 16) &&& M
theorem bcA_d : ∀ e, e < 2 → ∀ c, c < 128 → (128 * e + c) &&& 85 = c &&& 85 := by decide +kernel
theorem bcB_d : ∀ e, e < 4 → ∀ c, c < 64 → (64 * e + c) &&& 51 = c &&& 51 := by decide +kernel
theorem bcC_d : ∀ e, e < 5 → ∀ c, c < 73 → (16 * e + c) &&& 15 = c &&& 15 := by decide +kernel
theorem bcA_s {M B b : Nat} (hb : b < 256) : bcA (256 * M + 85) (256 * B + b) = 256 * bcA M B + bcA 85 b := by
  unfold bcA
  have e : (256 * B + b) / 2 = 2 ^ 8 * (B / 2) + (128 * (B % 2) + b / 2) := by omega
  rw [e, show 256 * M + 85 = 2 ^ 8 * M + 85 from rfl, an_sp (by omega) (by omega), bcA_d _ (by omega) _ (by omega)]
  have l1 : (B / 2) &&& M ≤ B / 2 := Nat.and_le_left
  have l2 : (b / 2) &&& 85 ≤ b / 2 := Nat.and_le_left
  omega
theorem bcB_s {M B b : Nat} (hb : b < 256) : bcB (256 * M + 51) (256 * B + b) = 256 * bcB M B + bcB 51 b := by
  unfold bcB
  have e : (256 * B + b) / 4 = 2 ^ 8 * (B / 4) + (64 * (B % 4) + b / 4) := by omega
  rw [e, show 256 * M + 51 = 2 ^ 8 * M + 51 from rfl, show 256 * B + b = 2 ^ 8 * B + b from rfl, an_sp (by omega) (by omega), an_sp (by omega) (by omega), bcB_d _ (by omega) _ (by omega)]
  omega
theorem bcC_s {M B b : Nat} (hb : b ≤ 68) (hB : B % 16 ≤ 4) : bcC (256 * M + 15) (256 * B + b) = 256 * bcC M B + bcC 15 b := by
  unfold bcC
  have e : 256 * B + b + (256 * B + b) / 16 = 2 ^ 8 * (B + B / 16) + (16 * (B % 16) + (b + b / 16)) := by omega
  rw [e, show 256 * M + 15 = 2 ^ 8 * M + 15 from rfl, an_sp (by omega) (by omega), bcC_d _ (by omega) _ (by omega)]
theorem bc_b : ∀ b, b < 256 → bcA 85 b < 256 ∧ bcB 51 (bcA 85 b) ≤ 68 ∧ bcB 51 (bcA 85 b) % 16 ≤ 4 ∧ bcC 15 (bcB 51 (bcA 85 b)) = cb (fun i => b.testBit i) 8 ∧ cb (fun i => b.testBit i) 8 ≤ 8 := by decide +kernel
theorem bc_t : ∀ b, b < 16 → bcB 13107 (bcA 21845 b) % 16 ≤ 4 ∧ bcC 3855 (bcB 13107 (bcA 21845 b)) = cb (fun i => b.testBit i) 4 ∧ cb (fun i => b.testBit i) 4 ≤ 4 := by decide +kernel
theorem cb_ad2 (f : Nat → Bool) (m : Nat) : ∀ n, cb f (m + n) = cb f m + cb (fun i => f (m + i)) n
  | 0 => rfl
  | n + 1 => by
    show cb f (m + n) + (if f (m + n) = true then 1 else 0) = cb f m + (cb (fun i => f (m + i)) n + (if f (m + n) = true then 1 else 0))
    rw [cb_ad2 f m n]
    omega
theorem bc_n {c0 c1 c2 : Nat} (h0 : c0 < 256) (h1 : c1 < 256) (h2 : c2 < 16) : ∃ p0 p1 p2, p0 ≤ 8 ∧ p1 ≤ 8 ∧ p2 ≤ 4 ∧ bcC 252645135 (bcB 858993459 (bcA 1431655765 (256 * (256 * c2 + c1) + c0))) = 65536 * p2 + 256 * p1 + p0 ∧ cb (fun i => (256 * (256 * c2 + c1) + c0).testBit i) 20 = p0 + p1 + p2 := by
  obtain ⟨a1, a2, a3, a4, a5⟩ := bc_b c0 h0
  obtain ⟨b1, b2, b3, b4, b5⟩ := bc_b c1 h1
  obtain ⟨d1, d2, d3⟩ := bc_t c2 h2
  refine ⟨_, _, _, a5, b5, d3, ?_, ?_⟩
  · rw [show (1431655765 : Nat) = 256 * (256 * 21845 + 85) + 85 from rfl, show (858993459 : Nat) = 256 * (256 * 13107 + 51) + 51 from rfl, show (252645135 : Nat) = 256 * (256 * 3855 + 15) + 15 from rfl]
    rw [bcA_s h0, bcA_s h1, bcB_s a1, bcB_s b1, bcC_s a2 (by omega), bcC_s b2 d1, a4, b4, d2]
    omega
  · rw [show 20 = 8 + 12 from rfl, cb_ad2, show 12 = 8 + 4 from rfl, cb_ad2]
    have q0 : cb (fun i => (256 * (256 * c2 + c1) + c0).testBit i) 8 = cb (fun i => c0.testBit i) 8 := cb_ext (fun i hi => by
      rw [show 256 * (256 * c2 + c1) + c0 = 2 ^ 8 * (256 * c2 + c1) + c0 from rfl, Nat.testBit_two_pow_mul_add _ h0, if_pos hi])
    have q1 : cb (fun i => (256 * (256 * c2 + c1) + c0).testBit (8 + i)) 8 = cb (fun i => c1.testBit i) 8 := cb_ext (fun i hi => by
      rw [show 256 * (256 * c2 + c1) + c0 = 2 ^ 8 * (2 ^ 8 * c2 + c1) + c0 from rfl, Nat.testBit_two_pow_mul_add _ h0, if_neg (by omega), show 8 + i - 8 = i by omega, Nat.testBit_two_pow_mul_add _ h1, if_pos hi])
    have q2 : cb (fun i => (256 * (256 * c2 + c1) + c0).testBit (8 + (8 + i))) 4 = cb (fun i => c2.testBit i) 4 := cb_ext (fun i hi => by
      rw [show 256 * (256 * c2 + c1) + c0 = 2 ^ 8 * (2 ^ 8 * c2 + c1) + c0 from rfl, Nat.testBit_two_pow_mul_add _ h0, if_neg (by omega), show 8 + (8 + i) - 8 = 8 + i by omega, Nat.testBit_two_pow_mul_add _ h1, if_neg (by omega), show 8 + i - 8 = i by omega])
    rw [q0, q1, q2]
    omega
theorem nI_and (s t : Nat) : nI s &&& nI t = nI (s &&& t) := by
  apply b_ext
  intro i hi
  rw [b_and, nb hi, nb hi, nb hi, Nat.testBit_and]
theorem nI_ush {a k : Nat} (ha : a < 2 ^ 31) (hk : k < 32) : ((nI a).toUInt32 >>> ((nI k).toUInt32 &&& Int32.toUInt32 31)).toInt32 = nI (a / 2 ^ k) := by
  apply b_ext
  intro i hi
  rw [b_ushr k hk, nb hi, Nat.testBit_div_two_pow]
  by_cases z : k + i < 32
  · rw [nb z, Nat.add_comm]
  · rw [b_big (by omega)]
    exact (Nat.testBit_lt_two_pow (Nat.lt_of_lt_of_le ha (Nat.pow_le_pow_right (by decide) (by omega)))).symm
def bxA (x : Int32) : Int32 := x - ((x.toUInt32 >>> ((nI 1).toUInt32 &&& Int32.toUInt32 31)).toInt32 &&& nI 1431655765)
def bxB (x : Int32) : Int32 := (x &&& nI 858993459) + ((x.toUInt32 >>> ((nI 2).toUInt32 &&& Int32.toUInt32 31)).toInt32 &&& nI 858993459)
def bxC (x : Int32) : Int32 := (x + (x.toUInt32 >>> ((nI 4).toUInt32 &&& Int32.toUInt32 31)).toInt32) &&& nI 252645135
def bxD (x : Int32) : Int32 := x + (x.toUInt32 >>> ((nI 8).toUInt32 &&& Int32.toUInt32 31)).toInt32
def bxE (x : Int32) : Int32 := (x + (x.toUInt32 >>> ((nI 16).toUInt32 &&& Int32.toUInt32 31)).toInt32) &&& nI 63
theorem bx_f (x : Int32) : f_J6_bitCount_0f7a4 x = bxE (bxD (bxC (bxB (bxA x)))) := rfl
theorem bc_20 {s : Nat} (hs : s < 2 ^ 20) : f_J6_bitCount_0f7a4 (nI s) = nI (cb (fun i => s.testBit i) 20) := by
  have es : s = 256 * (256 * (s / 65536) + s / 256 % 256) + s % 256 := by omega
  obtain ⟨p0, p1, p2, h0, h1, h2, hv, hc⟩ := bc_n (c0 := s % 256) (c1 := s / 256 % 256) (c2 := s / 65536) (by omega) (by omega) (by omega)
  rw [← es] at hv hc
  have A1 : bxA (nI s) = nI (bcA 1431655765 s) := by
    have l : (s / 2) &&& 1431655765 ≤ s / 2 := Nat.and_le_left
    unfold bxA bcA
    rw [nI_ush (by omega) (by omega), nI_and, show s / 2 ^ 1 = s / 2 from rfl, nI_sub (by omega)]
  obtain ⟨a, ea⟩ : ∃ a, a = bcA 1431655765 s := ⟨_, rfl⟩
  have la : a < 2 ^ 20 := by
    rw [ea]; unfold bcA; omega
  have B1 : bxB (nI a) = nI (bcB 858993459 a) := by
    unfold bxB bcB
    rw [nI_ush (by omega) (by omega), nI_and, nI_and, nI_add]
  obtain ⟨b, eb⟩ : ∃ b, b = bcB 858993459 a := ⟨_, rfl⟩
  have lb : b < 2 ^ 22 := by
    have l1 : a &&& 858993459 ≤ a := Nat.and_le_left
    have l2 : (a / 4) &&& 858993459 ≤ a / 4 := Nat.and_le_left
    rw [eb]; unfold bcB; omega
  have C1 : bxC (nI b) = nI (bcC 252645135 b) := by
    unfold bxC bcC
    rw [nI_ush (by omega) (by omega), nI_add, nI_and]
  rw [← ea, ← eb] at hv
  have D1 : bxD (nI (65536 * p2 + 256 * p1 + p0)) = nI (65536 * p2 + 256 * (p1 + p2) + (p0 + p1)) := by
    unfold bxD
    rw [nI_ush (by omega) (by omega), nI_add]
    congr 1
    omega
  have E1 : bxE (nI (65536 * p2 + 256 * (p1 + p2) + (p0 + p1))) = nI (p0 + p1 + p2) := by
    unfold bxE
    rw [nI_ush (by omega) (by omega), nI_add, nI_and, show (63 : Nat) = 2 ^ 6 - 1 from rfl, Nat.and_two_pow_sub_one_eq_mod, show (65536 * p2 + 256 * (p1 + p2) + (p0 + p1)) / 2 ^ 16 = p2 by omega]
    congr 1
    omega
  rw [bx_f, A1, ← ea, B1, ← eb, C1, hv, D1, E1, hc]
