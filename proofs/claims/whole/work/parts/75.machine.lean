/-! ===== the class's machine ===== -/
theorem nx_and (a b : Nat) : nI a &&& nI b = nI (a &&& b) := by
  apply Int32.toBitVec_inj.1
  show BitVec.ofNat 32 a &&& BitVec.ofNat 32 b = BitVec.ofNat 32 (a &&& b)
  apply BitVec.eq_of_getLsbD_eq
  intro i hi
  simp [hi]
theorem and31 (a : Nat) : nI a &&& 31 = nI (a % 32) := by
  rw [n_31, nx_and]
  congr 1
  exact Nat.and_two_pow_sub_one_eq_mod a 5
theorem shr5 {a : Nat} (h : a < 2 ^ 31) : nI a >>> (5 &&& 31) = nI (a / 32) := pk_shrN h _ 5 (by decide)
def valM (op : Nat) (y x : Int) : Int := if op = 3 then y + x else if op = 4 then y - x else if op = 5 then y * x else if op = 6 then y.tdiv x else if op = 7 then y.tmod x else if op = 8 then (if y < x then 1 else 0) else if op = 9 then (if x < y then 1 else 0) else (if y = x then 1 else 0)
/-- so many turns from a place with a stack: none nothing is said; some none broken; some (some v) the answer -/
def mgo (g : Nat → Nat) (L : Nat) (w : Nat → Int) : Nat → Nat → List Int → Option (Option Int)
  | 0, _, _ => some none
  | k + 1, p, st => if L ≤ p then some none
    else if g p % 32 = 1 ∨ g p % 32 = 2 then (if 120 ≤ st.length ∨ (g p % 32 = 2 ∧ 13 ≤ g p / 32) then some none else mgo g L w k (p + 1) ((if g p % 32 = 1 then (g p / 32 : Nat) else w (g p / 32)) :: st))
    else match st with
      | [] => some (some 0)
      | x :: t => if g p % 32 = 0 then some (some (if t.length = 0 then x else 0))
        else if g p % 32 = 11 then (if x = 0 ∨ x = 1 then mgo g L w k (p + 1) ((1 - x) :: t) else none)
        else if g p % 32 = 12 then (if x = 0 then mgo g L w k (p + 1) t else mgo g L w k (g p / 32) (x :: t))
        else if g p % 32 = 13 then (if x = 0 then mgo g L w k (g p / 32) (x :: t) else mgo g L w k (p + 1) t)
        else match t with
          | [] => some none
          | y :: t2 => if x = 0 ∧ (g p % 32 = 6 ∨ g p % 32 = 7) then some none else match bnd (valM (g p % 32) y x) with
            | none => some none
            | some v => mgo g L w k (p + 1) (v :: t2)
def stk (h : ah_T) : List Int → Prop
  | [] => True
  | x :: t => (ah_i h 28 t.length).toInt = x ∧ -1000000000 ≤ x ∧ x ≤ 1000000000 ∧ stk h t
theorem stk_set {h : ah_T} {j : Nat} {v : Int32} : ∀ {st : List Int}, st.length ≤ j → stk h st → stk (ah_si h 28 j v) st
  | [], _, _ => trivial
  | x :: t, hj, q => by
    have hj2 : t.length + 1 ≤ j := hj
    exact ⟨by rw [ah_i_sn (by omega)]; exact q.1, q.2.1, q.2.2.1, stk_set (by omega) q.2.2.2⟩
/-- what the machine may change -/
def mfr (h0 h : ah_T) : Prop := Sh h ∧ ah_x h = ah_x h0 ∧ (∀ a, a ≠ 26 → a ≠ 28 → eqc h0 h a) ∧ eqx (fun j => j = 1) h0 h 26
theorem mfr_28 {h0 h : ah_T} {j : Nat} {v : Int32} (q : mfr h0 h) : mfr h0 (ah_si h 28 j v) := by
  obtain ⟨q1, q2, q3, q4, q5, q6, q7, q8⟩ := q
  exact ⟨sh_si q1, by rw [ah_x_si, q2], fun a n1 n2 => eqc_si (q3 a n1 n2) n2, fun k hk => by rw [ah_i_sn (by omega)]; exact q4 k hk, q5, q6, q7, q8⟩
theorem mfr_26 {h0 h : ah_T} {v : Int32} (q : mfr h0 h) : mfr h0 (ah_si h 26 1 v) := by
  obtain ⟨q1, q2, q3, q4, q5, q6, q7, q8⟩ := q
  exact ⟨sh_si q1, by rw [ah_x_si, q2], fun a n1 n2 => eqc_si (q3 a n1 n2) n1, fun k hk => by rw [ah_i_sn (fun z => hk z.2)]; exact q4 k hk, q5, q6, q7, q8⟩
theorem i32_of {x : Int64} (h1 : -1000000000 ≤ x.toInt) (h2 : x.toInt ≤ 1000000000) : x.toInt32.toInt = x.toInt := by
  rw [Int64.toInt_toInt32, Int.bmod_def]
  split <;> omega
section MA
variable {g : Nat → Nat} {L a1 : Nat} {w : Nat → Int} {h0 : ah_T}
/-- the code and the words -/
def mcd (g : Nat → Nat) (L a1 : Nat) (w : Nat → Int) (h : ah_T) : Prop := L ≤ 500 ∧ ah_n h a1 = L ∧ ah_k h a1 = 14 ∧ (∀ k, k < L → ah_i h a1 k = nI (g k) ∧ g k < 65536) ∧ ∀ k, k < 13 → (ah_i h 27 k).toInt = w k ∧ -1000000000 ≤ w k ∧ w k ≤ 1000000000
theorem c_run_k {Q : Option Value → ah_T → Prop} (hc : mcd g L a1 w h0) (ha : a1 ≠ 26 ∧ a1 ≠ 28) (r : Option Int) (hq : ∀ v h', mfr h0 h' → (∀ x, r = some x → v.toInt = x ∧ ah_i h' 26 1 = 0) → (r = none → v = 0 ∧ ah_i h' 26 1 = 1) → Q (some (.int v)) h') :
    ∀ (k p : Nat) (st : List Int) (h : ah_T), k ≤ 1000 → p < 2 ^ 30 → mgo g L w k p st = some r → mfr h0 h → ah_i h 26 1 = 0 → stk h st → st.length ≤ 120 → Wp mX2_run Q 0 0 13 [some (.ref 26), some (.ref a1), none, some (.int (nI p)), some (.int (nI st.length)), some (.int (nI (1000 - k))), none, none, none, none, none, none, none, none] [] h := by
  obtain ⟨c1, c2, c3, c4, c5⟩ := hc
  have brk : ∀ h, r = none → mfr h0 h → Wp mX2_run Q 0 0 472 [some (.ref 26), none, none, none, none, none, none, none, none, none, none, none, none, none] [] h := by
    intro h hr hf
    refine T_X2_run_472 hf.1 ?_
    rintro h28 rfl
    exact hq 0 _ (mfr_26 hf) (fun x e => by rw [hr] at e; cases e) (fun _ => ⟨rfl, ah_i_ss⟩)
  intro k
  induction k with
  | zero =>
    intro p st h hk hp hm hf hb hst hl
    have ea := hf.2.2.1 a1 ha.1 ha.2
    refine T_X2_run_13 hf.1 a1 _ _ _ (by rw [ea.2.2.2.1]; exact c3) ?_
    (first | refine ⟨fun _ => ?_, fun n_ => absurd (show 1000 ≤ nI (1000 - 0) by decide) n_⟩ | refine ⟨fun n_ => absurd (show 1000 ≤ nI (1000 - 0) by decide) n_, fun _ => ?_⟩ | refine ⟨fun y_ => absurd y_ (show 1000 ≤ nI (1000 - 0) by decide), fun _ => ?_⟩ | refine ⟨fun _ => ?_, fun y_ => absurd y_ (show 1000 ≤ nI (1000 - 0) by decide)⟩)
    exact brk h (Option.some.inj hm).symm hf
  | succ k ih =>
    intro p st h hk hp hm hf hb hst hl
    have ea := hf.2.2.1 a1 ha.1 ha.2
    have ka : ah_k h a1 = 14 := by rw [ea.2.2.2.1]; exact c3
    have n28 : ah_n h 28 = 120 := sh_n hf.1 28 120 (by decide) (by decide) rfl
    have n27 : ah_n h 27 = 13 := sh_n hf.1 27 13 (by decide) (by decide) rfl
    unfold mgo at hm
    refine T_X2_run_13 hf.1 a1 _ _ _ ka ?_
    (first | refine ⟨fun _ => ?_, fun n_ => absurd (show ¬ 1000 ≤ nI (1000 - (k + 1)) from nI_ge (b := 1000) (by omega) (by omega)) n_⟩ | refine ⟨fun n_ => absurd (show ¬ 1000 ≤ nI (1000 - (k + 1)) from nI_ge (b := 1000) (by omega) (by omega)) n_, fun _ => ?_⟩ | refine ⟨fun y_ => absurd y_ (show ¬ 1000 ≤ nI (1000 - (k + 1)) from nI_ge (b := 1000) (by omega) (by omega)), fun _ => ?_⟩ | refine ⟨fun _ => ?_, fun y_ => absurd y_ (show ¬ 1000 ≤ nI (1000 - (k + 1)) from nI_ge (b := 1000) (by omega) (by omega))⟩)
    (first | refine ⟨fun _ => ?_, fun n_ => absurd (nI_pos (show p < 2 ^ 31 by omega)) n_⟩ | refine ⟨fun n_ => absurd (nI_pos (show p < 2 ^ 31 by omega)) n_, fun _ => ?_⟩ | refine ⟨fun y_ => absurd y_ (nI_pos (show p < 2 ^ 31 by omega)), fun _ => ?_⟩ | refine ⟨fun _ => ?_, fun y_ => absurd y_ (nI_pos (show p < 2 ^ 31 by omega))⟩)
    rw [nI_ofNat, ea.2.2.2.2, c2]
    by_cases cL : L ≤ p
    · rw [if_pos cL] at hm
      (first | refine ⟨fun _ => ?_, fun n_ => absurd (show nI L ≤ nI p from nI_le cL (by omega)) n_⟩ | refine ⟨fun n_ => absurd (show nI L ≤ nI p from nI_le cL (by omega)) n_, fun _ => ?_⟩ | refine ⟨fun y_ => absurd y_ (show nI L ≤ nI p from nI_le cL (by omega)), fun _ => ?_⟩ | refine ⟨fun _ => ?_, fun y_ => absurd y_ (show nI L ≤ nI p from nI_le cL (by omega))⟩)
      exact brk h (Option.some.inj hm).symm hf
    rw [if_neg cL] at hm
    (first | refine ⟨fun _ => ?_, fun n_ => absurd (show ¬ nI L ≤ nI p from nI_ge (by omega) (by omega)) n_⟩ | refine ⟨fun n_ => absurd (show ¬ nI L ≤ nI p from nI_ge (by omega) (by omega)) n_, fun _ => ?_⟩ | refine ⟨fun y_ => absurd y_ (show ¬ nI L ≤ nI p from nI_ge (by omega) (by omega)), fun _ => ?_⟩ | refine ⟨fun _ => ?_, fun y_ => absurd y_ (show ¬ nI L ≤ nI p from nI_ge (by omega) (by omega))⟩)
    obtain ⟨d1, d2⟩ := c4 p (by omega)
    rw [nI_clamp (by omega), ea.1, d1, and31, shr5 (by omega), nI_1]
    have vin : vp_in (nI p) L := (vp_nI (by omega)).mpr (by omega)
    refine ⟨vin, vin, ?_⟩
    have op : ∀ m, m < 2 ^ 31 → (nI (g p % 32) = nI m ↔ g p % 32 = m) := fun m hm => nI_eq (by omega) hm
    -- the next turn
    have next : ∀ (p' : Nat) (st' : List Int) (h' : ah_T), p' < 2 ^ 30 → mgo g L w k p' st' = some r → mfr h0 h' → ah_i h' 26 1 = 0 → stk h' st' → st'.length ≤ 120 → Wp mX2_run Q 0 0 466 [some (.ref 26), some (.ref a1), none, some (.int (nI p')), some (.int (nI st'.length)), some (.int (nI (1000 - (k + 1)))), none, none, none, none, none, none, none, none] [] h' := by
      intro p' st' h' q1 q2 q3 q4 q5 q6
      refine T_X2_run_466 q3.1 a1 _ _ _ (by rw [(q3.2.2.1 a1 ha.1 ha.2).2.2.2.1]; exact c3) ?_
      rw [nI_1, show 1000 - (k + 1) + 1 = 1000 - k by omega]
      exact ih p' st' h' (by omega) q1 q2 q3 q4 q5 q6
    -- a push
    have push : (g p % 32 = 1 ∨ g p % 32 = 2) → Wp mX2_run Q 0 0 61 [some (.ref 26), some (.ref a1), none, some (.int (nI (p + 1))), some (.int (nI st.length)), some (.int (nI (1000 - (k + 1)))), some (.int (nI (g p % 32))), some (.int (nI (g p / 32))), none, none, none, none, none, none] [] h := by
      intro z
      rw [if_pos z] at hm
      refine T_X2_run_61 hf.1 a1 _ _ _ _ _ ka ?_
      by_cases c120 : 120 ≤ st.length
      · rw [if_pos (.inl c120)] at hm
        (first | refine ⟨fun _ => ?_, fun n_ => absurd (show 120 ≤ nI st.length from nI_le (a := 120) c120 (by omega)) n_⟩ | refine ⟨fun n_ => absurd (show 120 ≤ nI st.length from nI_le (a := 120) c120 (by omega)) n_, fun _ => ?_⟩ | refine ⟨fun y_ => absurd y_ (show 120 ≤ nI st.length from nI_le (a := 120) c120 (by omega)), fun _ => ?_⟩ | refine ⟨fun _ => ?_, fun y_ => absurd y_ (show 120 ≤ nI st.length from nI_le (a := 120) c120 (by omega))⟩)
        exact brk h (Option.some.inj hm).symm hf
      (first | refine ⟨fun _ => ?_, fun n_ => absurd (show ¬ 120 ≤ nI st.length from nI_ge (b := 120) (by omega) (by omega)) n_⟩ | refine ⟨fun n_ => absurd (show ¬ 120 ≤ nI st.length from nI_ge (b := 120) (by omega) (by omega)) n_, fun _ => ?_⟩ | refine ⟨fun y_ => absurd y_ (show ¬ 120 ≤ nI st.length from nI_ge (b := 120) (by omega) (by omega)), fun _ => ?_⟩ | refine ⟨fun _ => ?_, fun y_ => absurd y_ (show ¬ 120 ≤ nI st.length from nI_ge (b := 120) (by omega) (by omega))⟩)
      have v28 : vp_in (nI st.length) (ah_n h 28) := by rw [n28]; exact (vp_nI (by omega)).mpr (by omega)
      by_cases z2 : g p % 32 = 2
      · (first | refine ⟨fun _ => ?_, fun n_ => absurd (show nI (g p % 32) = 2 from (op 2 (by decide)).mpr z2) n_⟩ | refine ⟨fun n_ => absurd (show nI (g p % 32) = 2 from (op 2 (by decide)).mpr z2) n_, fun _ => ?_⟩ | refine ⟨fun y_ => absurd y_ (show nI (g p % 32) = 2 from (op 2 (by decide)).mpr z2), fun _ => ?_⟩ | refine ⟨fun _ => ?_, fun y_ => absurd y_ (show nI (g p % 32) = 2 from (op 2 (by decide)).mpr z2)⟩)
        by_cases z13 : 13 ≤ g p / 32
        · rw [if_pos (.inr ⟨z2, z13⟩)] at hm
          (first | refine ⟨fun _ => ?_, fun n_ => absurd (show ¬ nI (g p / 32) < 13 from nI_nlt (b := 13) z13 (by omega)) n_⟩ | refine ⟨fun n_ => absurd (show ¬ nI (g p / 32) < 13 from nI_nlt (b := 13) z13 (by omega)) n_, fun _ => ?_⟩ | refine ⟨fun y_ => absurd y_ (show ¬ nI (g p / 32) < 13 from nI_nlt (b := 13) z13 (by omega)), fun _ => ?_⟩ | refine ⟨fun _ => ?_, fun y_ => absurd y_ (show ¬ nI (g p / 32) < 13 from nI_nlt (b := 13) z13 (by omega))⟩)
          exact brk h (Option.some.inj hm).symm hf
        · rw [if_neg (by omega), if_neg (by omega)] at hm
          (first | refine ⟨fun _ => ?_, fun n_ => absurd (show nI (g p / 32) < 13 from nI_lt (b := 13) (by omega) (by decide)) n_⟩ | refine ⟨fun n_ => absurd (show nI (g p / 32) < 13 from nI_lt (b := 13) (by omega) (by decide)) n_, fun _ => ?_⟩ | refine ⟨fun y_ => absurd y_ (show nI (g p / 32) < 13 from nI_lt (b := 13) (by omega) (by decide)), fun _ => ?_⟩ | refine ⟨fun _ => ?_, fun y_ => absurd y_ (show nI (g p / 32) < 13 from nI_lt (b := 13) (by omega) (by decide))⟩)
          refine T_X2_run_84 hf.1 a1 _ _ _ _ _ ka ?_
          (first | refine ⟨fun _ => ?_, fun n_ => absurd (show ¬ nI (g p % 32) = 1 from fun y => by have := (op 1 (by decide)).mp y; omega) n_⟩ | refine ⟨fun n_ => absurd (show ¬ nI (g p % 32) = 1 from fun y => by have := (op 1 (by decide)).mp y; omega) n_, fun _ => ?_⟩ | refine ⟨fun y_ => absurd y_ (show ¬ nI (g p % 32) = 1 from fun y => by have := (op 1 (by decide)).mp y; omega), fun _ => ?_⟩ | refine ⟨fun _ => ?_, fun y_ => absurd y_ (show ¬ nI (g p % 32) = 1 from fun y => by have := (op 1 (by decide)).mp y; omega)⟩)
          rw [nI_clamp (by omega), nI_clamp (by omega), nI_1]
          refine ⟨by rw [n27]; exact (vp_nI (by omega)).mpr (by omega), v28, ?_⟩
          rintro h55 rfl
          have e27 := (hf.2.2.1 27 (by decide) (by decide)).1
          obtain ⟨w1, w2, w3⟩ := c5 (g p / 32) (by omega)
          exact next (p + 1) (w (g p / 32) :: st) _ (by omega) hm (mfr_28 hf) (by rw [ah_i_sn (by omega)]; exact hb) ⟨by rw [ah_i_ss, e27]; exact w1, w2, w3, stk_set (Nat.le_refl _) hst⟩ (by show st.length + 1 ≤ 120; omega)
      · have z1 : g p % 32 = 1 := by omega
        rw [if_neg (by omega), if_pos z1] at hm
        (first | refine ⟨fun _ => ?_, fun n_ => absurd (show ¬ nI (g p % 32) = 2 from fun y => z2 ((op 2 (by decide)).mp y)) n_⟩ | refine ⟨fun n_ => absurd (show ¬ nI (g p % 32) = 2 from fun y => z2 ((op 2 (by decide)).mp y)) n_, fun _ => ?_⟩ | refine ⟨fun y_ => absurd y_ (show ¬ nI (g p % 32) = 2 from fun y => z2 ((op 2 (by decide)).mp y)), fun _ => ?_⟩ | refine ⟨fun _ => ?_, fun y_ => absurd y_ (show ¬ nI (g p % 32) = 2 from fun y => z2 ((op 2 (by decide)).mp y))⟩)
        refine T_X2_run_84 hf.1 a1 _ _ _ _ _ ka ?_
        (first | refine ⟨fun _ => ?_, fun n_ => absurd (show nI (g p % 32) = 1 from (op 1 (by decide)).mpr z1) n_⟩ | refine ⟨fun n_ => absurd (show nI (g p % 32) = 1 from (op 1 (by decide)).mpr z1) n_, fun _ => ?_⟩ | refine ⟨fun y_ => absurd y_ (show nI (g p % 32) = 1 from (op 1 (by decide)).mpr z1), fun _ => ?_⟩ | refine ⟨fun _ => ?_, fun y_ => absurd y_ (show nI (g p % 32) = 1 from (op 1 (by decide)).mpr z1)⟩)
        rw [nI_clamp (by omega), nI_1]
        refine ⟨v28, ?_⟩
        rintro h60 rfl
        exact next (p + 1) ((g p / 32 : Nat) :: st) _ (by omega) hm (mfr_28 hf) (by rw [ah_i_sn (by omega)]; exact hb) ⟨by rw [ah_i_ss, nI_toInt (by omega)], by omega, by omega, stk_set (Nat.le_refl _) hst⟩ (by show st.length + 1 ≤ 120; omega)
    refine ⟨fun z => push (.inl ((op 1 (by decide)).mp z)), fun n1 => ⟨fun n2 => ?_, fun z => push (.inr ((op 2 (by decide)).mp z))⟩⟩
    have m1 : ¬ g p % 32 = 1 := fun y => n1 ((op 1 (by decide)).mpr y)
    have m2 : ¬ g p % 32 = 2 := fun y => n2 ((op 2 (by decide)).mpr y)
    rw [if_neg (by omega)] at hm
    cases st with
    | nil =>
      (first | refine ⟨fun _ => ?_, fun n_ => absurd (show nI ([] : List Int).length = 0 by rfl) n_⟩ | refine ⟨fun n_ => absurd (show nI ([] : List Int).length = 0 by rfl) n_, fun _ => ?_⟩ | refine ⟨fun y_ => absurd y_ (show nI ([] : List Int).length = 0 by rfl), fun _ => ?_⟩ | refine ⟨fun _ => ?_, fun y_ => absurd y_ (show nI ([] : List Int).length = 0 by rfl)⟩)
      refine T_X2_run_125 hf.1 _ ⟨fun _ => ?_, fun z => absurd z (by decide)⟩
      have e := Option.some.inj hm
      exact hq 0 h hf (fun x ex => by rw [← e] at ex; cases ex; exact ⟨rfl, hb⟩) (fun er => by rw [← e] at er; cases er)
    | cons x t =>
      obtain ⟨s1, s2, s3, s4⟩ := hst
      dsimp only at hm
      have lt : (x :: t).length = t.length + 1 := rfl
      have l0 : ¬ nI (x :: t).length = 0 := nI_ne0 (by omega) (by omega)
      have ht : nI (x :: t).length - 1 = nI t.length := by rw [lt, nI_pred]
      have ht2 : nI (x :: t).length + -1 = nI t.length := by rw [← ht]; grind
      have v28 : vp_in (nI t.length) (ah_n h 28) := by rw [n28]; exact (vp_nI (by omega)).mpr (by omega)
      (first | refine ⟨fun _ => ?_, fun n_ => absurd (l0) n_⟩ | refine ⟨fun n_ => absurd (l0) n_, fun _ => ?_⟩ | refine ⟨fun y_ => absurd y_ (l0), fun _ => ?_⟩ | refine ⟨fun _ => ?_, fun y_ => absurd y_ (l0)⟩)
      by_cases z0 : g p % 32 = 0
      · rw [if_pos z0] at hm
        (first | refine ⟨fun _ => ?_, fun n_ => absurd (show nI (g p % 32) = 0 from (op 0 (by decide)).mpr z0) n_⟩ | refine ⟨fun n_ => absurd (show nI (g p % 32) = 0 from (op 0 (by decide)).mpr z0) n_, fun _ => ?_⟩ | refine ⟨fun y_ => absurd y_ (show nI (g p % 32) = 0 from (op 0 (by decide)).mpr z0), fun _ => ?_⟩ | refine ⟨fun _ => ?_, fun y_ => absurd y_ (show nI (g p % 32) = 0 from (op 0 (by decide)).mpr z0)⟩)
        refine T_X2_run_125 hf.1 _ ⟨fun z => ?_, fun z => ?_⟩
        · have e := Option.some.inj hm
          have : ¬ t.length = 0 := fun y => z (by rw [lt, y]; rfl)
          rw [if_neg this] at e
          exact hq 0 h hf (fun y ey => by rw [← e] at ey; cases ey; exact ⟨rfl, hb⟩) (fun er => by rw [← e] at er; cases er)
        · have e := Option.some.inj hm
          have hl1 : t.length = 0 := by
            rw [n_1, nI_eq (by omega) (by omega)] at z
            omega
          rw [if_pos hl1] at e
          rw [show Int32.toNatClampNeg 0 = 0 from rfl]
          rw [hl1] at s1
          exact hq _ h hf (fun y ey => by rw [← e] at ey; cases ey; exact ⟨s1, hb⟩) (fun er => by rw [← e] at er; cases er)
      rw [if_neg z0] at hm
      (first | refine ⟨fun _ => ?_, fun n_ => absurd (show ¬ nI (g p % 32) = 0 from fun y => z0 ((op 0 (by decide)).mp y)) n_⟩ | refine ⟨fun n_ => absurd (show ¬ nI (g p % 32) = 0 from fun y => z0 ((op 0 (by decide)).mp y)) n_, fun _ => ?_⟩ | refine ⟨fun y_ => absurd y_ (show ¬ nI (g p % 32) = 0 from fun y => z0 ((op 0 (by decide)).mp y)), fun _ => ?_⟩ | refine ⟨fun _ => ?_, fun y_ => absurd y_ (show ¬ nI (g p % 32) = 0 from fun y => z0 ((op 0 (by decide)).mp y))⟩)
      by_cases z11 : g p % 32 = 11
      · rw [if_pos z11] at hm
        (first | refine ⟨fun _ => ?_, fun n_ => absurd (show nI (g p % 32) = 11 from (op 11 (by decide)).mpr z11) n_⟩ | refine ⟨fun n_ => absurd (show nI (g p % 32) = 11 from (op 11 (by decide)).mpr z11) n_, fun _ => ?_⟩ | refine ⟨fun y_ => absurd y_ (show nI (g p % 32) = 11 from (op 11 (by decide)).mpr z11), fun _ => ?_⟩ | refine ⟨fun _ => ?_, fun y_ => absurd y_ (show nI (g p % 32) = 11 from (op 11 (by decide)).mpr z11)⟩)
        rw [ht, nI_clamp (by omega)]
        refine ⟨v28, v28, ?_⟩
        rintro h24 rfl
        by_cases zb : x = 0 ∨ x = 1
        · rw [if_pos zb] at hm
          refine next (p + 1) ((1 - x) :: t) _ (by omega) hm (mfr_28 hf) (by rw [ah_i_sn (by omega)]; exact hb) ⟨?_, by omega, by omega, stk_set (Nat.le_refl _) s4⟩ hl
          rw [ah_i_ss]
          rcases zb with zb | zb
          · have : ah_i h 28 t.length = 0 := Int32.toInt_inj.mp (by rw [s1, zb]; rfl)
            rw [this, zb]; rfl
          · have : ah_i h 28 t.length = 1 := Int32.toInt_inj.mp (by rw [s1, zb]; rfl)
            rw [this, zb]; rfl
        · rw [if_neg zb] at hm
          cases hm
      rw [if_neg z11] at hm
      (first | refine ⟨fun _ => ?_, fun n_ => absurd (show ¬ nI (g p % 32) = 11 from fun y => z11 ((op 11 (by decide)).mp y)) n_⟩ | refine ⟨fun n_ => absurd (show ¬ nI (g p % 32) = 11 from fun y => z11 ((op 11 (by decide)).mp y)) n_, fun _ => ?_⟩ | refine ⟨fun y_ => absurd y_ (show ¬ nI (g p % 32) = 11 from fun y => z11 ((op 11 (by decide)).mp y)), fun _ => ?_⟩ | refine ⟨fun _ => ?_, fun y_ => absurd y_ (show ¬ nI (g p % 32) = 11 from fun y => z11 ((op 11 (by decide)).mp y))⟩)
      have top0 : ah_i h 28 t.length = 0 ↔ x = 0 := by rw [← Int32.toInt_inj, s1]; exact Iff.rfl
      by_cases z12 : g p % 32 = 12
      · rw [if_pos z12] at hm
        (first | refine ⟨fun _ => ?_, fun n_ => absurd (show nI (g p % 32) = 12 from (op 12 (by decide)).mpr z12) n_⟩ | refine ⟨fun n_ => absurd (show nI (g p % 32) = 12 from (op 12 (by decide)).mpr z12) n_, fun _ => ?_⟩ | refine ⟨fun y_ => absurd y_ (show nI (g p % 32) = 12 from (op 12 (by decide)).mpr z12), fun _ => ?_⟩ | refine ⟨fun _ => ?_, fun y_ => absurd y_ (show nI (g p % 32) = 12 from (op 12 (by decide)).mpr z12)⟩)
        refine T_X2_run_186 hf.1 a1 _ _ _ _ _ ka ?_
        rw [ht2, ht, nI_clamp (by omega)]
        refine ⟨v28, fun y => ?_, fun y => ?_⟩
        · (first | refine ⟨fun _ => ?_, fun n_ => absurd (show nI (g p % 32) = 12 from (op 12 (by decide)).mpr z12) n_⟩ | refine ⟨fun n_ => absurd (show nI (g p % 32) = 12 from (op 12 (by decide)).mpr z12) n_, fun _ => ?_⟩ | refine ⟨fun y_ => absurd y_ (show nI (g p % 32) = 12 from (op 12 (by decide)).mpr z12), fun _ => ?_⟩ | refine ⟨fun _ => ?_, fun y_ => absurd y_ (show nI (g p % 32) = 12 from (op 12 (by decide)).mpr z12)⟩)
          rw [if_pos (top0.mp y)] at hm
          exact next (p + 1) t h (by omega) hm hf hb s4 (by omega)
        · (first | refine ⟨fun _ => ?_, fun n_ => absurd (show nI (g p % 32) = 12 from (op 12 (by decide)).mpr z12) n_⟩ | refine ⟨fun n_ => absurd (show nI (g p % 32) = 12 from (op 12 (by decide)).mpr z12) n_, fun _ => ?_⟩ | refine ⟨fun y_ => absurd y_ (show nI (g p % 32) = 12 from (op 12 (by decide)).mpr z12), fun _ => ?_⟩ | refine ⟨fun _ => ?_, fun y_ => absurd y_ (show nI (g p % 32) = 12 from (op 12 (by decide)).mpr z12)⟩)
          rw [if_neg (fun e => y (top0.mpr e))] at hm
          exact next (g p / 32) (x :: t) h (by omega) hm hf hb ⟨s1, s2, s3, s4⟩ hl
      rw [if_neg z12] at hm
      (first | refine ⟨fun _ => ?_, fun n_ => absurd (show ¬ nI (g p % 32) = 12 from fun y => z12 ((op 12 (by decide)).mp y)) n_⟩ | refine ⟨fun n_ => absurd (show ¬ nI (g p % 32) = 12 from fun y => z12 ((op 12 (by decide)).mp y)) n_, fun _ => ?_⟩ | refine ⟨fun y_ => absurd y_ (show ¬ nI (g p % 32) = 12 from fun y => z12 ((op 12 (by decide)).mp y)), fun _ => ?_⟩ | refine ⟨fun _ => ?_, fun y_ => absurd y_ (show ¬ nI (g p % 32) = 12 from fun y => z12 ((op 12 (by decide)).mp y))⟩)
      by_cases z13 : g p % 32 = 13
      · rw [if_pos z13] at hm
        (first | refine ⟨fun _ => ?_, fun n_ => absurd (show nI (g p % 32) = 13 from (op 13 (by decide)).mpr z13) n_⟩ | refine ⟨fun n_ => absurd (show nI (g p % 32) = 13 from (op 13 (by decide)).mpr z13) n_, fun _ => ?_⟩ | refine ⟨fun y_ => absurd y_ (show nI (g p % 32) = 13 from (op 13 (by decide)).mpr z13), fun _ => ?_⟩ | refine ⟨fun _ => ?_, fun y_ => absurd y_ (show nI (g p % 32) = 13 from (op 13 (by decide)).mpr z13)⟩)
        refine T_X2_run_186 hf.1 a1 _ _ _ _ _ ka ?_
        rw [ht2, ht, nI_clamp (by omega)]
        refine ⟨v28, fun y => ?_, fun y => ?_⟩
        · (first | refine ⟨fun _ => ?_, fun n_ => absurd (show ¬ nI (g p % 32) = 12 from fun y => z12 ((op 12 (by decide)).mp y)) n_⟩ | refine ⟨fun n_ => absurd (show ¬ nI (g p % 32) = 12 from fun y => z12 ((op 12 (by decide)).mp y)) n_, fun _ => ?_⟩ | refine ⟨fun y_ => absurd y_ (show ¬ nI (g p % 32) = 12 from fun y => z12 ((op 12 (by decide)).mp y)), fun _ => ?_⟩ | refine ⟨fun _ => ?_, fun y_ => absurd y_ (show ¬ nI (g p % 32) = 12 from fun y => z12 ((op 12 (by decide)).mp y))⟩)
          rw [if_pos (top0.mp y)] at hm
          exact next (g p / 32) (x :: t) h (by omega) hm hf hb ⟨s1, s2, s3, s4⟩ hl
        · (first | refine ⟨fun _ => ?_, fun n_ => absurd (show ¬ nI (g p % 32) = 12 from fun y => z12 ((op 12 (by decide)).mp y)) n_⟩ | refine ⟨fun n_ => absurd (show ¬ nI (g p % 32) = 12 from fun y => z12 ((op 12 (by decide)).mp y)) n_, fun _ => ?_⟩ | refine ⟨fun y_ => absurd y_ (show ¬ nI (g p % 32) = 12 from fun y => z12 ((op 12 (by decide)).mp y)), fun _ => ?_⟩ | refine ⟨fun _ => ?_, fun y_ => absurd y_ (show ¬ nI (g p % 32) = 12 from fun y => z12 ((op 12 (by decide)).mp y))⟩)
          rw [if_neg (fun e => y (top0.mpr e))] at hm
          exact next (p + 1) t h (by omega) hm hf hb s4 (by omega)
      rw [if_neg z13] at hm
      (first | refine ⟨fun _ => ?_, fun n_ => absurd (show ¬ nI (g p % 32) = 13 from fun y => z13 ((op 13 (by decide)).mp y)) n_⟩ | refine ⟨fun n_ => absurd (show ¬ nI (g p % 32) = 13 from fun y => z13 ((op 13 (by decide)).mp y)) n_, fun _ => ?_⟩ | refine ⟨fun y_ => absurd y_ (show ¬ nI (g p % 32) = 13 from fun y => z13 ((op 13 (by decide)).mp y)), fun _ => ?_⟩ | refine ⟨fun _ => ?_, fun y_ => absurd y_ (show ¬ nI (g p % 32) = 13 from fun y => z13 ((op 13 (by decide)).mp y))⟩)
      rw [ht, nI_clamp (by omega)]
      refine ⟨v28, ?_⟩
      cases t with
      | nil =>
        (first | refine ⟨fun _ => ?_, fun n_ => absurd (show nI [x].length < 2 from nI_lt (b := 2) (by show 1 < 2; decide) (by decide)) n_⟩ | refine ⟨fun n_ => absurd (show nI [x].length < 2 from nI_lt (b := 2) (by show 1 < 2; decide) (by decide)) n_, fun _ => ?_⟩ | refine ⟨fun y_ => absurd y_ (show nI [x].length < 2 from nI_lt (b := 2) (by show 1 < 2; decide) (by decide)), fun _ => ?_⟩ | refine ⟨fun _ => ?_, fun y_ => absurd y_ (show nI [x].length < 2 from nI_lt (b := 2) (by show 1 < 2; decide) (by decide))⟩)
        exact brk h (Option.some.inj hm).symm hf
      | cons y t2 =>
        obtain ⟨u1, u2, u3, u4⟩ := s4
        dsimp only at hm
        have lt2 : (y :: t2).length = t2.length + 1 := rfl
        (first | refine ⟨fun _ => ?_, fun n_ => absurd (show ¬ nI (x :: y :: t2).length < 2 from nI_nlt (b := 2) (by show 2 ≤ t2.length + 1 + 1; omega) (by omega)) n_⟩ | refine ⟨fun n_ => absurd (show ¬ nI (x :: y :: t2).length < 2 from nI_nlt (b := 2) (by show 2 ≤ t2.length + 1 + 1; omega) (by omega)) n_, fun _ => ?_⟩ | refine ⟨fun y_ => absurd y_ (show ¬ nI (x :: y :: t2).length < 2 from nI_nlt (b := 2) (by show 2 ≤ t2.length + 1 + 1; omega) (by omega)), fun _ => ?_⟩ | refine ⟨fun _ => ?_, fun y_ => absurd y_ (show ¬ nI (x :: y :: t2).length < 2 from nI_nlt (b := 2) (by show 2 ≤ t2.length + 1 + 1; omega) (by omega))⟩)
        have ex : ((ah_i h 28 (y :: t2).length).toInt64).toInt = x := by rw [Int32.toInt_toInt64, s1]
        have ey : ((ah_i h 28 t2.length).toInt64).toInt = y := by rw [Int32.toInt_toInt64, u1]
        have e2 : nI (y :: t2).length - 1 = nI t2.length := by rw [lt2, nI_pred]
        have v2 : vp_in (nI t2.length) (ah_n h 28) := by rw [n28]; exact (vp_nI (by omega)).mpr (by have : (x :: y :: t2).length = t2.length + 2 := rfl; omega)
        have hl3 : t2.length + 2 ≤ 120 := hl
        have l433 : ∀ rr : Int64, ¬ (x = 0 ∧ (g p % 32 = 6 ∨ g p % 32 = 7)) → rr.toInt = valM (g p % 32) y x → Wp mX2_run Q 0 0 433 [some (.ref 26), some (.ref a1), none, some (.int (nI (p + 1))), some (.int (nI (y :: t2).length)), some (.int (nI (1000 - (k + 1)))), none, none, none, none, none, none, some (.long rr), none] [] h := by
          intro rr hz hr
          rw [if_neg hz, ← hr] at hm
          have k1 : ((1000000000 : Int64) < rr) ↔ 1000000000 < rr.toInt := by rw [Int64.lt_iff_toInt_lt]; exact Iff.rfl
          have k2 : (((-1000000000) : Int64) ≤ rr) ↔ -1000000000 ≤ rr.toInt := by rw [Int64.le_iff_toInt_le]; exact Iff.rfl
          refine T_X2_run_433 hf.1 a1 _ _ _ _ ka ?_
          rw [lg_cmp_gt, lg_cmp_ge, k1, k2, e2, nI_clamp (by omega)]
          unfold bnd at hm
          by_cases b1 : 1000000000 < rr.toInt
          · rw [if_pos (.inl b1)] at hm
            (first | refine ⟨fun _ => ?_, fun n_ => absurd (b1) n_⟩ | refine ⟨fun n_ => absurd (b1) n_, fun _ => ?_⟩ | refine ⟨fun y_ => absurd y_ (b1), fun _ => ?_⟩ | refine ⟨fun _ => ?_, fun y_ => absurd y_ (b1)⟩)
            exact brk h (Option.some.inj hm).symm hf
          (first | refine ⟨fun _ => ?_, fun n_ => absurd (b1) n_⟩ | refine ⟨fun n_ => absurd (b1) n_, fun _ => ?_⟩ | refine ⟨fun y_ => absurd y_ (b1), fun _ => ?_⟩ | refine ⟨fun _ => ?_, fun y_ => absurd y_ (b1)⟩)
          by_cases b2 : -1000000000 ≤ rr.toInt
          · rw [if_neg (by omega)] at hm
            dsimp only at hm
            (first | refine ⟨fun _ => ?_, fun n_ => absurd (b2) n_⟩ | refine ⟨fun n_ => absurd (b2) n_, fun _ => ?_⟩ | refine ⟨fun y_ => absurd y_ (b2), fun _ => ?_⟩ | refine ⟨fun _ => ?_, fun y_ => absurd y_ (b2)⟩)
            refine ⟨v2, ?_⟩
            rintro h67 rfl
            exact next (p + 1) (rr.toInt :: t2) _ (by omega) hm (mfr_28 hf) (by rw [ah_i_sn (by omega)]; exact hb) ⟨by rw [ah_i_ss, i32_of b2 (by omega)], b2, by omega, stk_set (Nat.le_refl _) u4⟩ (by show t2.length + 1 ≤ 120; omega)
          · rw [if_pos (by omega)] at hm
            (first | refine ⟨fun _ => ?_, fun n_ => absurd (b2) n_⟩ | refine ⟨fun n_ => absurd (b2) n_, fun _ => ?_⟩ | refine ⟨fun y_ => absurd y_ (b2), fun _ => ?_⟩ | refine ⟨fun _ => ?_, fun y_ => absurd y_ (b2)⟩)
            exact brk h (Option.some.inj hm).symm hf
        have l272 : ¬ (x = 0 ∧ (g p % 32 = 6 ∨ g p % 32 = 7)) → Wp mX2_run Q 0 0 272 [some (.ref 26), some (.ref a1), none, some (.int (nI (p + 1))), some (.int (nI (x :: y :: t2).length)), some (.int (nI (1000 - (k + 1)))), some (.int (nI (g p % 32))), none, some (.long ((ah_i h 28 (y :: t2).length).toInt64)), none, none, none, none, none] [] h := by
          intro hz
          refine T_X2_run_272 hf.1 a1 _ _ _ _ _ ka ?_
          rw [ht2, e2, nI_clamp (by omega), lg_cmp_ge, lg_cmp_le, lg_cmp_eq]
          have opz : ∀ m : Nat, m < 32 → (nI (g p % 32) = nI m ↔ g p % 32 = m) := fun m hm => op m (by omega)
          refine ⟨v2, fun z => ?_, fun z => ?_, fun z => ?_, fun z => ?_, fun z => ?_, fun z => ?_, fun z => ?_, fun z3 z4 z5 z6 z7 z8 z9 => ?_⟩
          · have o := (opz 3 (by decide)).mp z
            refine l433 _ hz ?_
            unfold valM
            rw [if_pos o, l_add (by omega) (by omega) (by omega) (by omega), ex, ey]
          · have o := (opz 4 (by decide)).mp z
            refine l433 _ hz ?_
            unfold valM
            rw [if_neg (by omega), if_pos o, l_sub (by omega) (by omega) (by omega) (by omega), ex, ey]
          · have o := (opz 5 (by decide)).mp z
            refine l433 _ hz ?_
            unfold valM
            rw [if_neg (by omega), if_neg (by omega), if_pos o, l_mul (by omega) (by omega) (by omega) (by omega), ex, ey]
          · have o := (opz 6 (by decide)).mp z
            have hx0 : x ≠ 0 := fun e => hz ⟨e, .inl o⟩
            refine ⟨fun e => hx0 (by rw [← ex]; exact l_ne0.mp e), l433 _ hz ?_⟩
            unfold valM
            rw [if_neg (by omega), if_neg (by omega), if_neg (by omega), if_pos o, l_div (by omega) (by omega), ex, ey]
          · have o := (opz 7 (by decide)).mp z
            have hx0 : x ≠ 0 := fun e => hz ⟨e, .inr o⟩
            refine ⟨fun e => hx0 (by rw [← ex]; exact l_ne0.mp e), l433 _ hz ?_⟩
            unfold valM
            rw [if_neg (by omega), if_neg (by omega), if_neg (by omega), if_neg (by omega), if_pos o, l_rem (by omega) (by omega) (by omega) (by omega), ex, ey]
          · have o := (opz 8 (by decide)).mp z
            rw [Int64.le_iff_toInt_le, ex, ey]
            refine ⟨fun c => l433 _ hz ?_, fun c => l433 _ hz ?_⟩
            · unfold valM
              rw [if_neg (by omega), if_neg (by omega), if_neg (by omega), if_neg (by omega), if_neg (by omega), if_pos o, if_neg (by omega)]; rfl
            · unfold valM
              rw [if_neg (by omega), if_neg (by omega), if_neg (by omega), if_neg (by omega), if_neg (by omega), if_pos o, if_pos (by omega)]; rfl
          · have o := (opz 9 (by decide)).mp z
            rw [Int64.le_iff_toInt_le, ex, ey]
            refine ⟨fun c => l433 _ hz ?_, fun c => l433 _ hz ?_⟩
            · unfold valM
              rw [if_neg (by omega), if_neg (by omega), if_neg (by omega), if_neg (by omega), if_neg (by omega), if_neg (by omega), if_pos o, if_neg (by omega)]; rfl
            · unfold valM
              rw [if_neg (by omega), if_neg (by omega), if_neg (by omega), if_neg (by omega), if_neg (by omega), if_neg (by omega), if_pos o, if_pos (by omega)]; rfl
          · have o3 : ¬ g p % 32 = 3 := fun e => z3 ((opz 3 (by decide)).mpr e)
            have o4 : ¬ g p % 32 = 4 := fun e => z4 ((opz 4 (by decide)).mpr e)
            have o5 : ¬ g p % 32 = 5 := fun e => z5 ((opz 5 (by decide)).mpr e)
            have o6 : ¬ g p % 32 = 6 := fun e => z6 ((opz 6 (by decide)).mpr e)
            have o7 : ¬ g p % 32 = 7 := fun e => z7 ((opz 7 (by decide)).mpr e)
            have o8 : ¬ g p % 32 = 8 := fun e => z8 ((opz 8 (by decide)).mpr e)
            have o9 : ¬ g p % 32 = 9 := fun e => z9 ((opz 9 (by decide)).mpr e)
            rw [← Int64.toInt_inj, ex, ey]
            refine ⟨fun c => l433 _ hz ?_, fun c => l433 _ hz ?_⟩
            · unfold valM
              rw [if_neg o3, if_neg o4, if_neg o5, if_neg o6, if_neg o7, if_neg o8, if_neg o9, if_neg c]; rfl
            · unfold valM
              rw [if_neg o3, if_neg o4, if_neg o5, if_neg o6, if_neg o7, if_neg o8, if_neg o9, if_pos c]; rfl
        rw [lg_cmp_eq, l_ne0, ex]
        refine ⟨fun c => l272 (fun z => c z.1), fun c => ⟨fun z6 => ?_, fun z6 => ⟨fun z7 => l272 (fun z => ?_), fun z7 => ?_⟩⟩⟩
        · rw [if_pos ⟨c, .inl ((op 6 (by decide)).mp z6)⟩] at hm
          exact brk h (Option.some.inj hm).symm hf
        · rcases z.2 with u | u
          · exact z6 ((op 6 (by decide)).mpr u)
          · exact z7 ((op 7 (by decide)).mpr u)
        · rw [if_pos ⟨c, .inr ((op 7 (by decide)).mp z7)⟩] at hm
          exact brk h (Option.some.inj hm).symm hf
/-- the machine's run, by the pure one -/
theorem c_run {Q : Option Value → ah_T → Prop} (hs : Sh h0) (hc : mcd g L a1 w h0) (ha : a1 ≠ 26 ∧ a1 ≠ 28) {p : Nat} (hp : p < 2 ^ 30) {x : Int32} (e : x = nI p) (r : Option Int) (hm : mgo g L w 1000 p [] = some r) (hq : ∀ v h', mfr h0 h' → (∀ x, r = some x → v.toInt = x ∧ ah_i h' 26 1 = 0) → (r = none → v = 0 ∧ ah_i h' 26 1 = 1) → Q (some (.int v)) h') : Mt mX2_run [.ref 26, .ref a1, .int x] h0 Q := by
  subst e
  refine T_X2_run hs a1 _ hc.2.2.1 ?_
  rintro h1 rfl
  have f0 : mfr h0 h0 := ⟨hs, rfl, fun _ _ _ => eqc_rfl, fun _ _ => rfl, fun _ => rfl, fun _ => rfl, rfl, rfl⟩
  exact c_run_k hc ha r hq 1000 p [] _ (by omega) hp hm (mfr_26 f0) ah_i_ss trivial (by decide)
end MA
