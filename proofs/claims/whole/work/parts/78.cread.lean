/-! ===== the class's reader: state, emit, parts ===== -/
theorem nx_or (a b : Nat) : nI a ||| nI b = nI (a ||| b) := by
  apply Int32.toBitVec_inj.1
  show BitVec.ofNat 32 a ||| BitVec.ofNat 32 b = BitVec.ofNat 32 (a ||| b)
  apply BitVec.eq_of_getLsbD_eq
  intro i hi
  simp [hi]
theorem shl5 (a : Nat) : nI a <<< (5 &&& 31) = nI (32 * a) := by
  apply b_ext
  intro i hi
  have e := b_shl 5 (by decide) (nI a) hi
  rw [show (nI 5 &&& 31 : Int32) = (5 &&& 31) from rfl] at e
  rw [e]
  show (decide (5 ≤ i) && (BitVec.ofNat 32 a).getLsbD (i - 5)) = (BitVec.ofNat 32 (32 * a)).getLsbD i
  rw [BitVec.getLsbD_ofNat, BitVec.getLsbD_ofNat, show 32 * a = 2 ^ 5 * a from rfl, Nat.testBit_two_pow_mul]
  simp only [hi, show i - 5 < 32 by omega, decide_true, Bool.true_and]
theorem orc {o v : Nat} (ho : o < 32) : nI o ||| (nI v <<< (5 &&& 31)) = nI (o + 32 * v) := by
  rw [shl5, nx_or]
  congr 1
  rw [Nat.or_comm]
  have := Nat.shiftLeft_add_eq_or_of_lt (i := 5) (b := o) ho v
  rw [Nat.shiftLeft_eq, show v * 2 ^ 5 = 32 * v by omega] at this
  omega
abbrev cP : Nat → Prop := fun j => j = 6 ∨ j = 7 ∨ j = 8 ∨ j = 10
/-- what the reader may change while it reads sums and tests -/
def cFr (h0 h : ah_T) : Prop := Sh h ∧ ah_x h = ah_x h0 ∧ (∀ a, a ≠ 20 → a ≠ 23 → eqc h0 h a) ∧ eqx cP h0 h 20
theorem cFr_20 {h0 h : ah_T} {j : Nat} {v : Int32} (q : cFr h0 h) (hj : cP j) : cFr h0 (ah_si h 20 j v) := by
  obtain ⟨q1, q2, q3, q4, q5, q6, q7, q8⟩ := q
  exact ⟨sh_si q1, by rw [ah_x_si, q2], fun a n1 n2 => eqc_si (q3 a n1 n2) n1, fun k hk => by rw [ah_i_sn (fun z => hk (by rw [z.2]; exact hj))]; exact q4 k hk, q5, q6, q7, q8⟩
theorem cFr_23 {h0 h : ah_T} {j : Nat} {v : Int32} (q : cFr h0 h) : cFr h0 (ah_si h 23 j v) := by
  obtain ⟨q1, q2, q3, q4, q5, q6, q7, q8⟩ := q
  exact ⟨sh_si q1, by rw [ah_x_si, q2], fun a n1 n2 => eqc_si (q3 a n1 n2) n2, fun k hk => by rw [ah_i_sn (by omega)]; exact q4 k hk, q5, q6, q7, q8⟩
def wdL : List Nat := [98, 13, 14, 15, 21, 22, 23, 24, 0, 1, 2, 3, 4, 5, 6, 7, 8, 9, 10, 11, 12, 16, 17, 18, 19, 20]
/-- a token of the class, by the model's -/
def tkO (c v : Nat) : Nat := if c = 50 then 1000 + min v 1001 else if 100 ≤ c then c else wdL.getD c 98
section CR
variable {cs vs : Nat → Nat} {isV : Nat → Bool} {n : Nat} {h0 h : ah_T}
/-- the tokens as the class has them -/
def Ck (cs vs : Nat → Nat) (isV : Nat → Bool) (n : Nat) (h : ah_T) : Prop := n ≤ 400 ∧ cs n = 0 ∧ isV 0 = false ∧ (∀ k, k < n → ah_i h 21 k = nI (tkO (cs k) (vs k)) ∧ (cs k = 50 ∨ cs k ≤ 25 ∨ (100 ≤ cs k ∧ cs k < 356))) ∧ ah_i h 21 n = 99 ∧ (∀ c, isV c = true → 8 ≤ c ∧ c ≤ 20) ∧ ∀ c, 8 ≤ c → c ≤ 20 → (bt (ah_i h 20 9) (c - 8) = true ↔ isV c = true)
theorem Ck_fr (q : cFr h0 h) (t : Ck cs vs isV n h0) : Ck cs vs isV n h := by
  obtain ⟨t1, t2, t3, t4, t5, t6, t7⟩ := t
  have e21 := (q.2.2.1 21 (by decide) (by decide)).1
  exact ⟨t1, t2, t3, fun k hk => by rw [e21]; exact t4 k hk, by rw [e21]; exact t5, t6, fun c h1 h2 => by rw [q.2.2.2.1 9 (by decide)]; exact t7 c h1 h2⟩
/-- the token at a place, as a number -/
def tkA (cs vs : Nat → Nat) (n k : Nat) : Nat := if k < n then tkO (cs k) (vs k) else 99
theorem tkA_i (t : Ck cs vs isV n h) {k : Nat} (hk : k ≤ n) : ah_i h 21 k = nI (tkA cs vs n k) := by
  unfold tkA
  rcases Nat.lt_or_ge k n with z | z
  · rw [if_pos z]; exact (t.2.2.2.1 k z).1
  · have : k = n := by omega
    subst this
    rw [if_neg (by omega)]
    exact t.2.2.2.2.1
theorem wdL_lt : ∀ c, c ≤ 25 → wdL.getD c 98 ≤ 98 ∧ (wdL.getD c 98 < 13 ↔ (8 ≤ c ∧ c ≤ 20)) ∧ (8 ≤ c → c ≤ 20 → wdL.getD c 98 = c - 8) := by decide
theorem tkO_le {c v : Nat} (hc : c = 50 ∨ c ≤ 25 ∨ (100 ≤ c ∧ c < 356)) : tkO c v ≤ 2001 := by
  unfold tkO
  by_cases e : c = 50
  · rw [if_pos e]; omega
  · rw [if_neg e]
    by_cases e2 : 100 ≤ c
    · rw [if_pos e2]; omega
    · rw [if_neg e2]
      have := (wdL_lt c (by omega)).1
      omega
theorem tkA_le (t : Ck cs vs isV n h) {k : Nat} (hk : k ≤ n) : tkA cs vs n k ≤ 2001 := by
  unfold tkA
  rcases Nat.lt_or_ge k n with z | z
  · rw [if_pos z]; exact tkO_le (t.2.2.2.1 k z).2
  · rw [if_neg (by omega)]; omega
/-- a sign -/
theorem tkA_sign (t : Ck cs vs isV n h) {k s : Nat} (hk : k ≤ n) (hs : 100 ≤ s) (hs2 : s < 356) : tkA cs vs n k = s ↔ cs k = s := by
  unfold tkA
  rcases Nat.lt_or_ge k n with z | z
  · rw [if_pos z]
    have hc := (t.2.2.2.1 k z).2
    unfold tkO
    by_cases e : cs k = 50
    · rw [if_pos e]; omega
    · rw [if_neg e]
      by_cases e2 : 100 ≤ cs k
      · rw [if_pos e2]
      · rw [if_neg e2]
        have := (wdL_lt (cs k) (by omega)).1
        omega
  · have : k = n := by omega
    rw [if_neg (by omega), this, t.2.1]
    omega
/-- a number that may stand -/
theorem tkA_num (t : Ck cs vs isV n h) {k : Nat} (hk : k ≤ n) : (1000 ≤ tkA cs vs n k ∧ tkA cs vs n k ≤ 2000) ↔ (cs k = 50 ∧ vs k ≤ 1000) := by
  unfold tkA
  rcases Nat.lt_or_ge k n with z | z
  · rw [if_pos z]
    have hc := (t.2.2.2.1 k z).2
    unfold tkO
    by_cases e : cs k = 50
    · rw [if_pos e]; omega
    · rw [if_neg e]
      by_cases e2 : 100 ≤ cs k
      · rw [if_pos e2]; omega
      · rw [if_neg e2]
        have := (wdL_lt (cs k) (by omega)).1
        omega
  · have : k = n := by omega
    rw [if_neg (by omega), this, t.2.1]
    omega
theorem tkA_wd (t : Ck cs vs isV n h) {k : Nat} (hk : k ≤ n) : (tkA cs vs n k < 13 ↔ (8 ≤ cs k ∧ cs k ≤ 20)) ∧ (8 ≤ cs k → cs k ≤ 20 → tkA cs vs n k = cs k - 8) := by
  unfold tkA
  rcases Nat.lt_or_ge k n with z | z
  · rw [if_pos z]
    have hc := (t.2.2.2.1 k z).2
    unfold tkO
    by_cases e : cs k = 50
    · rw [if_pos e]; omega
    · rw [if_neg e]
      by_cases e2 : 100 ≤ cs k
      · rw [if_pos e2]; omega
      · rw [if_neg e2]
        have := wdL_lt (cs k) (by omega)
        exact ⟨this.2.1, this.2.2⟩
  · have : k = n := by omega
    rw [if_neg (by omega), this, t.2.1]
    omega
/-- where the reader stands -/
def cS (h0 h : ah_T) (i q lv : Nat) (c : Nat → Nat) (wd : Int32) : Prop := cFr h0 h ∧ ah_i h 20 6 = nI i ∧ ah_i h 20 7 = nI q ∧ ah_i h 20 8 = nI lv ∧ ah_i h 20 10 = wd ∧ ∀ k, k < q → ah_i h 23 k = nI (c k) ∧ c k < 65536
theorem c_emit {Q : Option Value → ah_T → Prop} {i q lv o v : Nat} {c : Nat → Nat} {wd x1 x2 : Int32} (s : cS h0 h i q lv c wd) (hq : q < 500) (ho : o < 32) (hv : v ≤ 1001) (e1 : x1 = nI o) (e2 : x2 = nI v) (k : ∀ h', cS h0 h' i (q + 1) lv (up c q (o + 32 * v)) wd → Q (some (.int (nI q))) h') : Mt mX5_emit [.ref 20, .int x1, .int x2] h Q := by
  subst e1 e2
  obtain ⟨s1, s2, s3, s4, s5, s6⟩ := s
  refine T_X5_emit s1.1 _ _ ?_
  rw [s3, orc ho, nI_clamp (by omega)]
  (first | refine ⟨fun _ => ?_, fun n_ => absurd (show nI q < 500 from nI_lt (b := 500) hq (by decide)) n_⟩ | refine ⟨fun n_ => absurd (show nI q < 500 from nI_lt (b := 500) hq (by decide)) n_, fun _ => ?_⟩ | refine ⟨fun y_ => absurd y_ (show nI q < 500 from nI_lt (b := 500) hq (by decide)), fun _ => ?_⟩ | refine ⟨fun _ => ?_, fun y_ => absurd y_ (show nI q < 500 from nI_lt (b := 500) hq (by decide))⟩)
  refine ⟨by rw [sh_n s1.1 23 500 (by decide) (by decide) rfl]; exact (vp_nI (by omega)).mpr hq, ?_⟩
  rintro h3 rfl
  rintro h6 rfl
  rw [ah_i_ss, ah_i_sn (by omega), s3, nI_1, nI_pred]
  refine k _ ⟨cFr_20 (cFr_23 s1) (.inr (.inl rfl)), by rw [ah_i_sn (by omega), ah_i_sn (by omega)]; exact s2, ah_i_ss, by rw [ah_i_sn (by omega), ah_i_sn (by omega)]; exact s4, by rw [ah_i_sn (by omega), ah_i_sn (by omega)]; exact s5, fun j hj => ?_⟩
  rw [ah_i_sn (by omega), ah_i_si]
  by_cases e : j = q
  · rw [if_pos ⟨rfl, e⟩, e, up_s]
    exact ⟨rfl, by omega⟩
  · rw [if_neg (fun z => e z.2), up_n e]
    exact s6 j (by omega)
end CR
