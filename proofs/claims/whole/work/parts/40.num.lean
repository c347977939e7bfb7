/-! ===== numbers: everything small is nI of a natural number ===== -/
theorem nI_mul (a b : Nat) : nI a * nI b = nI (a * b) := (Int32.ofNat_mul a b).symm
theorem nI_sub {a b : Nat} (h : b ≤ a) : nI a - nI b = nI (a - b) := by
  have h1 : nI (a - b) + nI b = nI a := by rw [nI_add, Nat.sub_add_cancel h]
  rw [← h1]; grind
theorem vp_nI {i n : Nat} (hi : i < 2 ^ 31) : vp_in (nI i) n ↔ i < n := by
  unfold vp_in
  rw [nI_clamp hi]
  have := nI_pos hi
  constructor
  · intro h; exact Nat.not_le.mp fun q => h (.inr q)
  · intro h q; rcases q with q | q
    · exact this q
    · omega
theorem nI_ofNat (n : Nat) : Int32.ofNat n = nI n := rfl
theorem nI_m1 {n : Nat} (h : n < 2 ^ 31) : ¬ nI n = -1 := by
  intro q
  have := nI_pos h
  rw [q] at this
  exact this (by decide)
theorem nI_m1' {n : Nat} (h : n < 2 ^ 31) : ¬ (-1 : Int32) = nI n := fun q => nI_m1 h q.symm
/-- NONE or a number: 0 is NONE, n + 1 is n -/
def nO (n : Nat) : Int32 := nI n - 1
theorem nO_0 : nO 0 = -1 := by decide
theorem nO_s (n : Nat) : nO (n + 1) = nI n := nI_pred n
theorem nI_of3 {x : Int32} (h : ¬ x < 0) : ∃ j : Nat, j < 2 ^ 31 ∧ x = nI j := nI_of h
theorem nI_ltO {x : Int32} {n : Nat} (h0 : ¬ x < 0) (h : x < nI n) (hn : n < 2 ^ 31) : ∃ j : Nat, j < n ∧ x = nI j := by
  obtain ⟨j, hj, rfl⟩ := nI_of h0
  exact ⟨j, (nI_ltI hj hn).mp h, rfl⟩
theorem n_0 : (0 : Int32) = nI 0 := rfl
theorem n_1 : (1 : Int32) = nI 1 := rfl
theorem n_2 : (2 : Int32) = nI 2 := rfl
theorem n_3 : (3 : Int32) = nI 3 := rfl
theorem n_4 : (4 : Int32) = nI 4 := rfl
theorem n_5 : (5 : Int32) = nI 5 := rfl
theorem n_6 : (6 : Int32) = nI 6 := rfl
theorem n_7 : (7 : Int32) = nI 7 := rfl
theorem n_8 : (8 : Int32) = nI 8 := rfl
theorem n_9 : (9 : Int32) = nI 9 := rfl
theorem n_10 : (10 : Int32) = nI 10 := rfl
theorem n_11 : (11 : Int32) = nI 11 := rfl
theorem n_12 : (12 : Int32) = nI 12 := rfl
theorem n_13 : (13 : Int32) = nI 13 := rfl
theorem n_14 : (14 : Int32) = nI 14 := rfl
theorem n_15 : (15 : Int32) = nI 15 := rfl
theorem n_16 : (16 : Int32) = nI 16 := rfl
theorem n_17 : (17 : Int32) = nI 17 := rfl
theorem n_18 : (18 : Int32) = nI 18 := rfl
theorem n_19 : (19 : Int32) = nI 19 := rfl
theorem n_20 : (20 : Int32) = nI 20 := rfl
theorem n_21 : (21 : Int32) = nI 21 := rfl
theorem n_22 : (22 : Int32) = nI 22 := rfl
theorem n_23 : (23 : Int32) = nI 23 := rfl
theorem n_24 : (24 : Int32) = nI 24 := rfl
theorem n_25 : (25 : Int32) = nI 25 := rfl
theorem n_26 : (26 : Int32) = nI 26 := rfl
theorem n_31 : (31 : Int32) = nI 31 := rfl
theorem n_32 : (32 : Int32) = nI 32 := rfl
theorem n_50 : (50 : Int32) = nI 50 := rfl
theorem n_60 : (60 : Int32) = nI 60 := rfl
theorem n_90 : (90 : Int32) = nI 90 := rfl
theorem n_97 : (97 : Int32) = nI 97 := rfl
theorem n_98 : (98 : Int32) = nI 98 := rfl
theorem n_99 : (99 : Int32) = nI 99 := rfl
theorem n_100 : (100 : Int32) = nI 100 := rfl
theorem n_119 : (119 : Int32) = nI 119 := rfl
theorem n_120 : (120 : Int32) = nI 120 := rfl
theorem n_121 : (121 : Int32) = nI 121 := rfl
theorem n_122 : (122 : Int32) = nI 122 := rfl
theorem n_128 : (128 : Int32) = nI 128 := rfl
theorem n_144 : (144 : Int32) = nI 144 := rfl
theorem n_162 : (162 : Int32) = nI 162 := rfl
theorem n_200 : (200 : Int32) = nI 200 := rfl
theorem n_218 : (218 : Int32) = nI 218 := rfl
theorem n_240 : (240 : Int32) = nI 240 := rfl
theorem n_241 : (241 : Int32) = nI 241 := rfl
theorem n_242 : (242 : Int32) = nI 242 := rfl
theorem n_243 : (243 : Int32) = nI 243 := rfl
theorem n_244 : (244 : Int32) = nI 244 := rfl
theorem n_245 : (245 : Int32) = nI 245 := rfl
theorem n_246 : (246 : Int32) = nI 246 := rfl
theorem n_247 : (247 : Int32) = nI 247 := rfl
theorem n_248 : (248 : Int32) = nI 248 := rfl
theorem n_249 : (249 : Int32) = nI 249 := rfl
theorem n_250 : (250 : Int32) = nI 250 := rfl
theorem n_251 : (251 : Int32) = nI 251 := rfl
theorem n_252 : (252 : Int32) = nI 252 := rfl
theorem n_253 : (253 : Int32) = nI 253 := rfl
theorem n_255 : (255 : Int32) = nI 255 := rfl
theorem n_256 : (256 : Int32) = nI 256 := rfl
theorem n_260 : (260 : Int32) = nI 260 := rfl
theorem n_360 : (360 : Int32) = nI 360 := rfl
theorem n_400 : (400 : Int32) = nI 400 := rfl
theorem n_401 : (401 : Int32) = nI 401 := rfl
theorem n_500 : (500 : Int32) = nI 500 := rfl
theorem n_1000 : (1000 : Int32) = nI 1000 := rfl
theorem n_1001 : (1001 : Int32) = nI 1001 := rfl
theorem n_1024 : (1024 : Int32) = nI 1024 := rfl
theorem n_1103 : (1103 : Int32) = nI 1103 := rfl
theorem n_1200 : (1200 : Int32) = nI 1200 := rfl
theorem n_1201 : (1201 : Int32) = nI 1201 := rfl
theorem n_2400 : (2400 : Int32) = nI 2400 := rfl
theorem n_2660 : (2660 : Int32) = nI 2660 := rfl
theorem n_3060 : (3060 : Int32) = nI 3060 := rfl
theorem n_3460 : (3460 : Int32) = nI 3460 := rfl
theorem n_4096 : (4096 : Int32) = nI 4096 := rfl
theorem n_5860 : (5860 : Int32) = nI 5860 := rfl
theorem n_7200 : (7200 : Int32) = nI 7200 := rfl
theorem n_7920 : (7920 : Int32) = nI 7920 := rfl
theorem n_8640 : (8640 : Int32) = nI 8640 := rfl
theorem n_10240 : (10240 : Int32) = nI 10240 := rfl
theorem n_12345 : (12345 : Int32) = nI 12345 := rfl
theorem n_1000000 : (1000000 : Int32) = nI 1000000 := rfl
theorem n_1000003 : (1000003 : Int32) = nI 1000003 := rfl
theorem n_1123200 : (1123200 : Int32) = nI 1123200 := rfl
theorem q_up {α : Type} {P : α → Prop} {a b : α} (e : a = b) (h : P a) : P b := e ▸ h
/-- one place of a row is another -/
def up (A : Nat → Nat) (j v : Nat) : Nat → Nat := fun i => if i = j then v else A i
theorem up_s (A : Nat → Nat) (j v : Nat) : up A j v j = v := if_pos rfl
theorem up_n {A : Nat → Nat} {j v i : Nat} (h : i ≠ j) : up A j v i = A i := if_neg h
/-! patterns: a small number as grind sees it -/
theorem nI_gi {n : Nat} (h : n < 2 ^ 31) : Lean.Grind.ToInt.toInt (nI n) = n := Int32.toInt_ofNat_of_lt h
theorem nI_gc (x : Int32) (h : 0 ≤ x) : nI x.toNatClampNeg = x ∧ x.toNatClampNeg < 2147483648 := by
  obtain ⟨j, hj, rfl⟩ := nI_of (x := x) (by grind)
  rw [nI_clamp hj]
  exact ⟨rfl, by omega⟩
grind_pattern nI_gi => nI n
grind_pattern nI_gc => x.toNatClampNeg
theorem vp_g (i : Int32) (n : Nat) : vp_in i n ↔ (0 ≤ i ∧ i.toNatClampNeg < n) := by
  unfold vp_in
  constructor
  · intro h
    exact ⟨by grind, by grind⟩
  · intro h
    grind
grind_pattern vp_g => vp_in i n
theorem ah_i_sn {h : ah_T} {a j : Nat} {x : Int32} {b k : Nat} (hn : ¬ (b = a ∧ k = j)) : ah_i (ah_si h a j x) b k = ah_i h b k := by rw [ah_i_si, if_neg hn]
theorem ah_i_ss {h : ah_T} {a j : Nat} {x : Int32} : ah_i (ah_si h a j x) a j = x := by rw [ah_i_si, if_pos ⟨rfl, rfl⟩]
theorem ah_ext {h h' : ah_T} (h1 : ∀ a, ah_k h a = ah_k h' a) (h2 : ∀ a, ah_n h a = ah_n h' a) (h3 : ∀ a j, ah_i h a j = ah_i h' a j) (h4 : ∀ a j, ah_l h a j = ah_l h' a j) (h5 : ∀ a j, ah_r h a j = ah_r h' a j) (h6 : ah_x h = ah_x h') : h = h' := by
  obtain ⟨a1, a2, a3, a4, a5, a6⟩ := h
  obtain ⟨b1, b2, b3, b4, b5, b6⟩ := h'
  have e1 : a1 = b1 := funext h1
  have e2 : a2 = b2 := funext h2
  have e3 : a3 = b3 := funext fun a => funext (h3 a)
  have e4 : a4 = b4 := funext fun a => funext (h4 a)
  have e5 : a5 = b5 := funext fun a => funext (h5 a)
  have e6 : a6 = b6 := h6
  subst e1 e2 e3 e4 e5 e6
  rfl
