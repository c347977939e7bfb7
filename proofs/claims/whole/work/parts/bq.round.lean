/-! ===== rounds: the least to come to all, sets as numbers ===== -/
def lc (D : Nat → Nat → Nat) : Nat → List Nat → Nat
  | _, [] => 0
  | a, c :: t => D a c + lc D c t
def mc (D : Nat → Nat → Nat) (P : Nat → Prop) (a v : Nat) : Prop := (∃ cs : List Nat, (∀ c, P c → c ∈ cs) ∧ lc D a cs = v) ∧ ∀ cs : List Nat, (∀ c, P c → c ∈ cs) → v ≤ lc D a cs
noncomputable def mv (D : Nat → Nat → Nat) (P : Nat → Prop) (a : Nat) : Nat := @dite Nat (∃ v, mc D P a v) (Classical.propDecidable _) (fun y => Classical.choose y) (fun _ => 0)
section MV
variable {D : Nat → Nat → Nat} {P Q : Nat → Prop} {a b c p : Nat}
theorem mc_ex (hP : ∀ c, P c → c < 12) : ∃ v, mc D P a v := by
  have key : ∀ n, (∃ cs : List Nat, (∀ c, P c → c ∈ cs) ∧ lc D a cs = n) → ∃ v, mc D P a v := by
    intro n
    induction n using Nat.strongRecOn with
    | _ n ih =>
      rintro ⟨cs, q1, q2⟩
      by_cases z : ∃ cs : List Nat, (∀ c, P c → c ∈ cs) ∧ lc D a cs < n
      · obtain ⟨cs2, q3, q4⟩ := z
        exact ih _ q4 ⟨cs2, q3, rfl⟩
      · refine ⟨n, ⟨cs, q1, q2⟩, fun cs2 q3 => ?_⟩
        rcases Nat.lt_or_ge (lc D a cs2) n with y | y
        · exact absurd ⟨cs2, q3, y⟩ z
        · exact y
  exact key _ ⟨List.range 12, fun c hc => List.mem_range.mpr (hP c hc), rfl⟩
theorem mv_sp (hP : ∀ c, P c → c < 12) : mc D P a (mv D P a) := by
  have y := mc_ex (D := D) (a := a) hP
  have e : mv D P a = Classical.choose y := dif_pos y
  rw [e]
  exact Classical.choose_spec y
theorem mv_le (hP : ∀ c, P c → c < 12) {cs : List Nat} (q : ∀ c, P c → c ∈ cs) : mv D P a ≤ lc D a cs := (mv_sp hP).2 cs q
theorem mv_0 (hP : ∀ c, ¬ P c) : mv D P a = 0 := Nat.le_antisymm (mv_le (D := D) (a := a) (fun c y => absurd y (hP c)) (cs := []) (fun c y => absurd y (hP c))) (Nat.zero_le _)
theorem mv_1 (hP : ∀ c, P c → c < 12) (hQ : ∀ c, Q c → c < 12) (s : ∀ x, P x → x = c ∨ Q x) : mv D P a ≤ D a c + mv D Q c := by
  obtain ⟨⟨cs, q1, q2⟩, _⟩ := mv_sp (D := D) (a := c) hQ
  have := mv_le (D := D) (a := a) hP (cs := c :: cs) (fun x hx => by
    rcases s x hx with y | y
    · rw [y]; exact List.mem_cons_self
    · exact List.mem_cons_of_mem _ (q1 x y))
  have e : lc D a (c :: cs) = D a c + lc D c cs := rfl
  rw [e, q2] at this
  exact this
theorem mv_2a (tri : ∀ a b c, D a c ≤ D a b + D b c) (hP : ∀ c, P c → c < 12) : ∀ (cs : List Nat) (a : Nat), (∀ c, P c → c ∈ cs) → (∃ p, P p) → ∃ p, P p ∧ ∀ Q : Nat → Prop, (∀ x, Q x → P x ∧ x ≠ p) → D a p + mv D Q p ≤ lc D a cs
  | [], _, q, ⟨p, hp⟩ => absurd (q p hp) List.not_mem_nil
  | c :: t, a, q, e => by
    have el : lc D a (c :: t) = D a c + lc D c t := rfl
    by_cases z : P c
    · refine ⟨c, z, fun Q hQ => ?_⟩
      have := mv_le (D := D) (P := Q) (a := c) (fun x hx => hP x (hQ x hx).1) (cs := t) (fun x hx => by
        obtain ⟨h1, h2⟩ := hQ x hx
        rcases List.mem_cons.mp (q x h1) with y | y
        · exact absurd y h2
        · exact y)
      omega
    · obtain ⟨p, h1, h2⟩ := mv_2a tri hP t c (fun x hx => by
        rcases List.mem_cons.mp (q x hx) with y | y
        · rw [y] at hx; exact absurd hx z
        · exact y) e
      refine ⟨p, h1, fun Q hQ => ?_⟩
      have w := h2 Q hQ
      have t1 := tri a c p
      omega
theorem mv_2 (tri : ∀ a b c, D a c ≤ D a b + D b c) (hP : ∀ c, P c → c < 12) (e : ∃ p, P p) : ∃ p, P p ∧ ∀ Q : Nat → Prop, (∀ x, Q x → P x ∧ x ≠ p) → D a p + mv D Q p ≤ mv D P a := by
  obtain ⟨⟨cs, q1, q2⟩, _⟩ := mv_sp (D := D) (a := a) hP
  have := mv_2a tri hP cs a q1 e
  rw [q2] at this
  exact this
theorem lc_ge (tri : ∀ a b c, D a c ≤ D a b + D b c) : ∀ (cs : List Nat) (a : Nat), p ∈ cs → D a p ≤ lc D a cs
  | [], _, y => absurd y List.not_mem_nil
  | c :: t, a, y => by
    have el : lc D a (c :: t) = D a c + lc D c t := rfl
    rcases List.mem_cons.mp y with z | z
    · rw [z, el]; omega
    · have := lc_ge tri t c z
      have := tri a c p
      omega
theorem mv_ge (tri : ∀ a b c, D a c ≤ D a b + D b c) (hP : ∀ c, P c → c < 12) (hp : P p) : D a p ≤ mv D P a := by
  obtain ⟨⟨cs, q1, q2⟩, _⟩ := mv_sp (D := D) (a := a) hP
  rw [← q2]
  exact lc_ge tri cs a (q1 p hp)
/-- the least of some first steps, each with the least of what is left -/
theorem mv_min {I : Nat → Prop} {cf : Nat → Nat} {Qf : Nat → Nat → Prop} (tri : ∀ a b c, D a c ≤ D a b + D b c) (rf : ∀ a, D a a = 0) (hP : ∀ c, P c → c < 12) (h2 : ∀ l, I l → ∀ x, P x → x = cf l ∨ Qf l x) (h3 : ∀ l, I l → ∀ x, Qf l x → P x) (h4 : ∀ p, P p → ∃ l, I l ∧ cf l = p) (e : ∃ p, P p) (b1 : b ≤ 1000000) (b2 : ∀ l, I l → b ≤ D a (cf l) + min 1000000 (mv D (Qf l) (cf l))) (b3 : b = 1000000 ∨ ∃ l, I l ∧ b = D a (cf l) + min 1000000 (mv D (Qf l) (cf l))) : b = min 1000000 (mv D P a) := by
  have le : b ≤ mv D P a := by
    obtain ⟨p, hp, q⟩ := mv_2 (a := a) tri hP e
    obtain ⟨l, il, el⟩ := h4 p hp
    have w := q (fun x => Qf l x ∧ x ≠ p) (fun x hx => ⟨h3 l il x hx.1, hx.2⟩)
    have m := mv_1 (D := D) (P := Qf l) (Q := fun x => Qf l x ∧ x ≠ p) (a := p) (c := p) (fun x hx => hP x (h3 l il x hx)) (fun x hx => hP x (h3 l il x hx.1)) (fun x hx => by
      by_cases z : x = p
      · exact .inl z
      · exact .inr ⟨hx, z⟩)
    rw [rf] at m
    have := b2 l il
    rw [el] at this
    omega
  rcases b3 with y | ⟨l, il, y⟩
  · omega
  · have m := mv_1 (D := D) (P := P) (Q := Qf l) (a := a) (c := cf l) hP (fun x hx => hP x (h3 l il x hx)) (h2 l il)
    omega
end MV
/-! ## sets as numbers -/
theorem nb {s i : Nat} (hi : i < 32) : bt (nI s) i = s.testBit i := by
  show (BitVec.ofNat 32 s).getLsbD i = _
  rw [BitVec.getLsbD_ofNat, decide_eq_true hi, Bool.true_and]
theorem lt31 {s : Nat} (hs : s < 1024) : s < 2 ^ 31 := Nat.lt_of_lt_of_le hs (by decide)
theorem nx_lt {s t : Nat} (hs : s < 1024) (ht : t < 1024) : s ^^^ t < 1024 := Nat.xor_lt_two_pow (n := 10) hs ht
theorem no_lt {s t : Nat} (hs : s < 1024) (ht : t < 1024) : s ||| t < 1024 := Nat.or_lt_two_pow (n := 10) hs ht
theorem p2_lt {i : Nat} (hi : i < 10) : 2 ^ i < 1024 := Nat.pow_lt_pow_right (by decide) hi
theorem nI_xor (s t : Nat) : nI s ^^^ nI t = nI (s ^^^ t) := by
  apply b_ext
  intro i hi
  rw [b_xor, nb hi, nb hi, nb hi, Nat.testBit_xor]
theorem nI_or (s t : Nat) : nI s ||| nI t = nI (s ||| t) := by
  apply b_ext
  intro i hi
  rw [b_or, nb hi, nb hi, nb hi, Nat.testBit_or]
theorem nI_1sh {n : Nat} (hn : n < 32) : (1 : Int32) <<< (nI n &&& 31) = nI (2 ^ n) := by
  apply b_ext
  intro i hi
  rw [b_1sh hn hi, nb hi, Nat.testBit_two_pow]
  by_cases z : i = n
  · subst z; rfl
  · rw [decide_eq_false z, decide_eq_false (Ne.symm z)]
theorem nI_full {n : Nat} (hn : n < 31) : ((1 : Int32) <<< (nI n &&& 31)) - 1 = nI (2 ^ n - 1) := by
  rw [nI_1sh (by omega), show (1 : Int32) = nI 1 from rfl, nI_sub (Nat.one_le_two_pow)]
theorem tb_x {s i j : Nat} : (s ^^^ 2 ^ i).testBit j = (s.testBit j ^^ decide (i = j)) := by rw [Nat.testBit_xor, Nat.testBit_two_pow]
theorem tb_o {s i j : Nat} : (s ||| 2 ^ i).testBit j = (s.testBit j || decide (i = j)) := by rw [Nat.testBit_or, Nat.testBit_two_pow]
theorem dn_x : ∀ a, a < 32 → ∀ b, b < 32 → ∀ i, i < 10 → (32 * a + b).testBit i = true → (32 * a + b) ^^^ 2 ^ i < 32 * a + b := by decide +kernel
theorem up_o : ∀ a, a < 32 → ∀ b, b < 32 → ∀ i, i < 10 → (32 * a + b).testBit i = false → 32 * a + b < (32 * a + b) ||| 2 ^ i := by decide +kernel
theorem dn_xor {s i : Nat} (hs : s < 1024) (hi : i < 10) (h : s.testBit i = true) : s ^^^ 2 ^ i < s := by
  have e : 32 * (s / 32) + s % 32 = s := by omega
  have := dn_x (s / 32) (by omega) (s % 32) (by omega) i hi
  rw [e] at this
  exact this h
theorem up_or {s i : Nat} (hs : s < 1024) (hi : i < 10) (h : s.testBit i = false) : s < s ||| 2 ^ i := by
  have e : 32 * (s / 32) + s % 32 = s := by omega
  have := up_o (s / 32) (by omega) (s % 32) (by omega) i hi
  rw [e] at this
  exact this h
theorem tb_full {n i : Nat} : (2 ^ n - 1).testBit i = decide (i < n) := Nat.testBit_two_pow_sub_one n i
theorem set_ext {s t n : Nat} (hs : s < 2 ^ n) (ht : t < 2 ^ n) (e : ∀ i, i < n → s.testBit i = t.testBit i) : s = t := by
  apply Nat.eq_of_testBit_eq
  intro i
  by_cases z : i < n
  · exact e i z
  · have p : 2 ^ n ≤ 2 ^ i := Nat.pow_le_pow_right (by decide) (by omega)
    rw [Nat.testBit_lt_two_pow (Nat.lt_of_lt_of_le hs p), Nat.testBit_lt_two_pow (Nat.lt_of_lt_of_le ht p)]
/-! ## how far, as a number -/
noncomputable def dS (A : Nat → Nat) (a b : Nat) : Nat := @dite Nat (∃ n, lst (Ew A noS) a b n) (Classical.propDecidable _) (fun y => min (Classical.choose y) 1000000) (fun _ => 1000000)
section DS
variable {A : Nat → Nat} {a b c n : Nat}
theorem dS_of (y : lst (Ew A noS) a b n) : dS A a b = min n 1000000 := by
  have yes : ∃ n, lst (Ew A noS) a b n := ⟨n, y⟩
  have e : dS A a b = min (Classical.choose yes) 1000000 := dif_pos yes
  rw [e, lst_u y (Classical.choose_spec yes)]
theorem dS_no (y : ∀ n, ¬ wk (Ew A noS) n a b) : dS A a b = 1000000 := dif_neg (fun ⟨n, z⟩ => y n z.1)
theorem dS_le (w : wk (Ew A noS) n a b) : dS A a b ≤ n := by
  obtain ⟨m, hm, z⟩ := lst_of n w
  rw [dS_of z]; omega
theorem dS_wk (y : dS A a b < 1000000) : wk (Ew A noS) (dS A a b) a b := by
  by_cases z : ∃ n, wk (Ew A noS) n a b
  · obtain ⟨n, z⟩ := z
    obtain ⟨m, _, w⟩ := lst_of n z
    have e := dS_of w
    rw [e] at y ⊢
    rw [show min m 1000000 = m by omega]
    exact w.1
  · rw [dS_no (fun n w => z ⟨n, w⟩)] at y
    omega
theorem dS_top (A : Nat → Nat) (a b : Nat) : dS A a b ≤ 1000000 := by
  by_cases z : ∃ n, wk (Ew A noS) n a b
  · obtain ⟨n, z⟩ := z
    obtain ⟨m, _, w⟩ := lst_of n z
    rw [dS_of w]; omega
  · rw [dS_no (fun n w => z ⟨n, w⟩)]; exact Nat.le_refl _
theorem dS_tri (A : Nat → Nat) (a b c : Nat) : dS A a c ≤ dS A a b + dS A b c := by
  have t := dS_top A a c
  by_cases y : dS A a b < 1000000
  · by_cases z : dS A b c < 1000000
    · exact dS_le (wk_cat (dS_wk y) (dS_wk z))
    · omega
  · omega
theorem dS_rf (A : Nat → Nat) (a : Nat) : dS A a a = 0 := Nat.le_antisymm (dS_le (n := 0) rfl) (Nat.zero_le _)
theorem wk_1 {E : Nat → Nat → Prop} (y : E a b) : wk E 1 a b := ⟨a, rfl, y⟩
theorem wk_rv : ∀ {n b : Nat}, wk (Ew A noS) n a b → wk (Ew A noS) n b a
  | 0, b, w => by
    have : a = b := w
    subst this
    exact w
  | n + 1, b, ⟨c, w1, w2⟩ => by
    have := wk_cat (wk_1 (Ew_sym w2)) (wk_rv w1)
    rw [Nat.add_comm] at this
    exact this
theorem dS_sy (A : Nat → Nat) (a b : Nat) : dS A a b = dS A b a := by
  have key : ∀ a b, dS A a b ≤ dS A b a := by
    intro a b
    by_cases y : dS A b a < 1000000
    · exact dS_le (wk_rv (dS_wk y))
    · have := dS_top A a b
      omega
  exact Nat.le_antisymm (key a b) (key b a)
/-- an entry as both sides hold it -/
theorem dS_v {v : Int32} (d : dst (Ew A noS) a b v) : (v = -1 ∧ dS A a b = 1000000) ∨ (v = nI (dS A a b) ∧ dS A a b < 12) := by
  rcases d with ⟨e, q⟩ | ⟨n, e, hn, q⟩
  · exact .inl ⟨e, dS_no q⟩
  · have := dS_of q
    rw [show min n 1000000 = n by omega] at this
    exact .inr ⟨by rw [this]; exact e, by omega⟩
end DS
