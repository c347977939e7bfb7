/-! ===== the model's evaluation of sums ===== -/
theorem bmod64 {x : Int} (h1 : -9223372036854775808 ≤ x) (h2 : x < 9223372036854775808) : x.bmod (2 ^ 64) = x := by
  rw [Int.bmod_def]
  split <;> omega
theorem l_add {x y : Int64} (h1 : -4000000000000000000 ≤ x.toInt) (h2 : x.toInt ≤ 4000000000000000000) (h3 : -4000000000000000000 ≤ y.toInt) (h4 : y.toInt ≤ 4000000000000000000) : (x + y).toInt = x.toInt + y.toInt := by
  rw [Int64.toInt_add]; exact bmod64 (by omega) (by omega)
theorem l_sub {x y : Int64} (h1 : -4000000000000000000 ≤ x.toInt) (h2 : x.toInt ≤ 4000000000000000000) (h3 : -4000000000000000000 ≤ y.toInt) (h4 : y.toInt ≤ 4000000000000000000) : (x - y).toInt = x.toInt - y.toInt := by
  rw [Int64.toInt_sub]; exact bmod64 (by omega) (by omega)
theorem mul_bd {a b : Int} (h1 : -1000000000 ≤ a) (h2 : a ≤ 1000000000) (h3 : -1000000000 ≤ b) (h4 : b ≤ 1000000000) : -1000000000000000000 ≤ a * b ∧ a * b ≤ 1000000000000000000 := by
  have k : a.natAbs * b.natAbs ≤ 1000000000 * 1000000000 := Nat.mul_le_mul (by omega) (by omega)
  have e : (a * b).natAbs = a.natAbs * b.natAbs := Int.natAbs_mul a b
  omega
theorem l_mul {x y : Int64} (h1 : -1000000000 ≤ x.toInt) (h2 : x.toInt ≤ 1000000000) (h3 : -1000000000 ≤ y.toInt) (h4 : y.toInt ≤ 1000000000) : (x * y).toInt = x.toInt * y.toInt := by
  have k := mul_bd h1 h2 h3 h4
  rw [Int64.toInt_mul]; exact bmod64 (by omega) (by omega)
theorem tdiv_bd {a b : Int} (h1 : -1000000000 ≤ a) (h2 : a ≤ 1000000000) : -1000000000 ≤ a.tdiv b ∧ a.tdiv b ≤ 1000000000 := by
  have k : (a.tdiv b).natAbs ≤ a.natAbs := Int.natAbs_tdiv_le_natAbs a b
  omega
theorem l_div {x y : Int64} (h1 : -1000000000 ≤ x.toInt) (h2 : x.toInt ≤ 1000000000) : (x / y).toInt = x.toInt.tdiv y.toInt := by
  have k := tdiv_bd (b := y.toInt) h1 h2
  rw [Int64.toInt_div]; exact bmod64 (by omega) (by omega)
theorem l_rem {x y : Int64} (h1 : -1000000000 ≤ x.toInt) (h2 : x.toInt ≤ 1000000000) (h3 : -1000000000 ≤ y.toInt) (h4 : y.toInt ≤ 1000000000) : (x - x / y * y).toInt = x.toInt.tmod y.toInt := by
  have e1 := l_div (y := y) h1 h2
  have k := tdiv_bd (b := y.toInt) h1 h2
  have e2 : (x / y * y).toInt = x.toInt.tdiv y.toInt * y.toInt := by rw [l_mul (by omega) (by omega) h3 h4, e1]
  have k2 := mul_bd k.1 k.2 h3 h4
  rw [l_sub (by omega) (by omega) (by omega) (by omega), e2, Int.tmod_def, Int.mul_comm y.toInt]
theorem l_ne0 {x : Int64} : x = 0 ↔ x.toInt = 0 := by
  rw [← Int64.toInt_inj]
  exact Iff.rfl
section EV
variable {cs vs : Nat → Nat} {isV : Nat → Bool} {n b : Nat} {w : Nat → Int} {h0 h : ah_T}
abbrev eP : Nat → Prop := fun j => j = 20 ∨ j = 22
/-- the text as it is laid in the model's row, and the words -/
def Lx (cs vs : Nat → Nat) (isV : Nat → Bool) (n b : Nat) (w : Nat → Int) (h : ah_T) : Prop := n ≤ 400 ∧ cs n = 0 ∧ isV 0 = false ∧ b + n ≤ 2800 ∧ ah_i h 82 21 = nI (b + n) ∧ (∀ k, k < n → ah_i h 84 (260 + (b + k)) = nI (cs k) ∧ ah_i h 84 (3060 + (b + k)) = nI (vs k)) ∧ (∀ k, k ≤ n → cs k < 400 ∧ vs k < 2 ^ 31) ∧
  (∀ c, isV c = true → c ≠ 50 ∧ c ≠ 191 ∧ -1000000000 ≤ w (c - 8) ∧ w (c - 8) ≤ 1000000000) ∧
  ((ah_i h 82 23 = 0 ∧ ∀ c, isV c = true → 8 ≤ c ∧ c ≤ 15 ∧ (ah_i h 93 (c - 8)).toInt = w (c - 8)) ∨ (ah_i h 82 23 = 1 ∧ ∀ c, isV c = true → (c = 14 ∧ (ah_i h 84 242).toInt = w 6) ∨ (16 ≤ c ∧ c ≤ 20 ∧ (ah_i h 94 (c - 16)).toInt = w (c - 8))))
def bI (x : Bool) : Int32 := if x then 1 else 0
def ex (b : Nat) (h0 h : ah_T) (i : Nat) (br : Bool) : Prop := fr82 eP h0 h ∧ ah_i h 82 20 = nI (b + i) ∧ ah_i h 82 22 = bI br
theorem Lx_fr (q : fr82 eP h0 h) (t : Lx cs vs isV n b w h0) : Lx cs vs isV n b w h := by
  obtain ⟨t1, t2, t3, t4, t5, t6, t7, t8, t9⟩ := t
  have e84 := (q.2.2.1 84 (by decide)).1
  have e93 := (q.2.2.1 93 (by decide)).1
  have e94 := (q.2.2.1 94 (by decide)).1
  have e21 := q.2.2.2.1 21 (by decide)
  have e23 := q.2.2.2.1 23 (by decide)
  refine ⟨t1, t2, t3, t4, by rw [e21]; exact t5, fun k hk => by rw [e84, e84]; exact t6 k hk, t7, t8, ?_⟩
  rw [e23]
  simp only [e84, e93, e94]
  exact t9
theorem cdA {i : Nat} {br : Bool} (t : Lx cs vs isV n b w h0) (q : ex b h0 h i br) (hi : i ≤ n) : f_X12_codeAt h (ah_i h 82 20) = nI (cs i) ∧ (¬ ah_i h 82 21 ≤ ah_i h 82 20 → vp_in (260 + ah_i h 82 20) (ah_n h 84)) := by
  obtain ⟨t1, t2, t3, t4, t5, t6, t7, t8, t9⟩ := Lx_fr q.1 t
  unfold f_X12_codeAt
  rw [q.2.1, t5]
  have f1 : 260 + nI (b + i) = nI (260 + (b + i)) := by rw [n_260, nI_add]
  rcases Nat.lt_or_ge i n with z | z
  · have c : ¬ nI (b + n) ≤ nI (b + i) := nI_ge (by omega) (by omega)
    rw [if_neg c, f1, nI_clamp (by omega)]
    exact ⟨(t6 i z).1, fun _ => by rw [n84 q.1.1]; exact (vp_nI (by omega)).mpr (by omega)⟩
  · have e : i = n := by omega
    subst e
    rw [if_pos (Int32.le_refl _), t2]
    exact ⟨rfl, fun y => absurd (Int32.le_refl _) y⟩
theorem ex_go {i : Nat} {br : Bool} (q : ex b h0 h i br) : ex b h0 (ah_si h 82 20 (ah_i h 82 20 + 1)) (i + 1) br := by
  refine ⟨fr82_set q.1 (.inl rfl), ?_, by rw [ah_i_sn (by omega)]; exact q.2.2⟩
  rw [ah_i_ss, q.2.1, nI_1]
  rfl
theorem ex_br {i : Nat} {br : Bool} (q : ex b h0 h i br) (br' : Bool) {x : Int32} (hx : x = bI br') : ex b h0 (ah_si h 82 22 x) i br' :=
  ⟨fr82_set q.1 (.inr rfl), by rw [ah_i_sn (by omega)]; exact q.2.1, by rw [ah_i_ss, hx]⟩
theorem mt_pass {Q : Option Value → ah_T → Prop} {i k : Nat} {br : Bool} {x : Int32} (t : Lx cs vs isV n b w h0) (q : ex b h0 h i br) (hi : i ≤ n) (e : x = nI k) (hk : k < 400) (h1 : cs i = k → ∀ h', ex b h0 h' (i + 1) br → Q (some (.int 1)) h') (h2 : cs i ≠ k → Q (some (.int 0)) h) : Mt mX12_passes0 [.ref 82, .int x] h Q := by
  subst e
  obtain ⟨c1, c2⟩ := cdA t q hi
  have c4 := (t.2.2.2.2.2.2.1 i hi).1
  refine T_X12_passes0 q.1.1 _ ⟨c2, ?_⟩
  rw [c1]
  refine ⟨fun z => h2 (fun y => z (by rw [y])), fun z => ?_⟩
  rintro h3 rfl
  exact h1 ((nI_eq (by omega) (by omega)).mp z) _ (ex_go q)
/-- what an evaluation gives: nothing is broken anew where it is not live, or broken already -/
def evR (w : Nat → Int) (live br : Bool) (m : Mg) (v : Int64) (br' : Bool) : Prop :=
  (¬ (live = true ∧ br = false) → br' = br) ∧ (live = true → br = false → (m w = none → br' = true) ∧ ∀ x, m w = some x → br' = false ∧ v.toInt = x ∧ -1000000000 ≤ x ∧ x ≤ 1000000000)
theorem mt_bounded {Q : Option Value → ah_T → Prop} {i : Nat} {br live : Bool} {x : Int64} (q : ex b h0 h i br) (hq : ∀ v h' br', ex b h0 h' i br' → (¬ (live = true ∧ br = false) → br' = br) → (live = true → br = false → (bnd x.toInt = none → br' = true) ∧ ∀ y, bnd x.toInt = some y → br' = false ∧ v.toInt = y ∧ -1000000000 ≤ y ∧ y ≤ 1000000000) → Q (some (.long v)) h') : Mt mX12_bounded [.ref 82, .long x, .int (bI live)] h Q := by
  have k1 : ((1000000000 : Int64) < x) ↔ 1000000000 < x.toInt := by rw [Int64.lt_iff_toInt_lt]; exact Iff.rfl
  have k2 : (((-1000000000) : Int64) ≤ x) ↔ -1000000000 ≤ x.toInt := by rw [Int64.le_iff_toInt_le]; exact Iff.rfl
  refine T_X12_bounded q.1.1 _ _ ?_
  rw [lg_cmp_gt, lg_cmp_ge, k1, k2]
  have plain : (live = true → br = false → ¬ (1000000000 < x.toInt) ∧ -1000000000 ≤ x.toInt) → ((ah_i h 82 22 = 0 → Q (some (.long x)) h) ∧ (¬ ah_i h 82 22 = 0 → Q (some (.long (0 : Int64))) h)) := by
    intro hb
    rw [q.2.2]
    refine ⟨fun z => ?_, fun z => ?_⟩
    · refine hq x h br q (fun _ => rfl) (fun l1 l2 => ?_)
      obtain ⟨b1, b2⟩ := hb l1 l2
      unfold bnd
      rw [if_neg (by omega)]
      exact ⟨fun y => (by cases y), fun y e => by cases e; exact ⟨l2, rfl, b2, by omega⟩⟩
    · have hbr : br = true := by
        cases br
        · exact absurd rfl z
        · rfl
      exact hq 0 h br q (fun _ => rfl) (fun _ l2 => by rw [hbr] at l2; exact absurd l2 (by decide))
  have brk : live = true → (1000000000 < x.toInt ∨ ¬ -1000000000 ≤ x.toInt) → ∀ h4, h4 = ah_si h 82 22 1 → ((ah_i h4 82 22 = 0 → Q (some (.long x)) h4) ∧ (¬ ah_i h4 82 22 = 0 → Q (some (.long (0 : Int64))) h4)) := by
    rintro l1 hb h4 rfl
    rw [ah_i_ss]
    refine ⟨fun z => absurd z (by decide), fun _ => ?_⟩
    refine hq 0 _ true (ex_br q true rfl) (fun z => ?_) (fun _ _ => ?_)
    · cases br
      · exact absurd ⟨l1, rfl⟩ z
      · rfl
    · unfold bnd
      rw [if_pos (by omega)]
      exact ⟨fun _ => rfl, fun y e => by cases e⟩
  cases live
  · (first | refine ⟨fun _ => ?_, fun n_ => absurd (show bI false = 0 by rfl) n_⟩ | refine ⟨fun n_ => absurd (show bI false = 0 by rfl) n_, fun _ => ?_⟩ | refine ⟨fun y_ => absurd y_ (show bI false = 0 by rfl), fun _ => ?_⟩ | refine ⟨fun _ => ?_, fun y_ => absurd y_ (show bI false = 0 by rfl)⟩)
    exact plain (fun l => absurd l (by decide))
  · (first | refine ⟨fun _ => ?_, fun n_ => absurd (show ¬ bI true = 0 by decide) n_⟩ | refine ⟨fun n_ => absurd (show ¬ bI true = 0 by decide) n_, fun _ => ?_⟩ | refine ⟨fun y_ => absurd y_ (show ¬ bI true = 0 by decide), fun _ => ?_⟩ | refine ⟨fun _ => ?_, fun y_ => absurd y_ (show ¬ bI true = 0 by decide)⟩)
    refine ⟨fun z => brk rfl (.inl z), fun z => ⟨fun z2 => plain (fun _ _ => ⟨z, z2⟩), fun z2 => brk rfl (.inr z2)⟩⟩
/-- a method evaluates as f reads -/
def mEv (cs vs : Nat → Nat) (isV : Nat → Bool) (n b : Nat) (w : Nat → Int) (h0 : ah_T) (M : ab_M) (f : Nat → Nat → pR Mg) : Prop :=
  ∀ (Q : Option Value → ah_T → Prop) (h : ah_T) (i lv : Nat) (live br : Bool), i ≤ n → lv ≤ 50 → (f i lv).1 = true → ex b h0 h i br → (∀ v h' br', ex b h0 h' (f i lv).2.1 br' → evR w live br (f i lv).2.2.2 v br' → Q (some (.long v)) h') → Mt M [.ref 82, .int (bI live)] h Q
theorem ev_part {d : Nat} {rec : Option (Nat → Nat → pR Mg)} (t : Lx cs vs isV n b w h0) (hd : 8 ≤ d) (hrec : ∀ f, rec = some f → lvO n f ∧ mEv cs vs isV n b w h0 (mX12_sumOf (d - 1)) f) : mEv cs vs isV n b w h0 (mX12_partOf d) (pPart cs vs isV rec) := by
  intro Q h i lv live br hi hl hok q hq
  have t' := Lx_fr q.1 t
  obtain ⟨t1, t2, t3, t4, t5, t6, t7, t8, t9⟩ := t'
  have hci := t7 i hi
  unfold pPart at hok hq
  refine T_X12_partOf hd q.1.1 _ ?_
  rw [show f_X12_sign 91 = nI 191 from rfl]
  refine mt_pass t q hi rfl (by decide) (fun c h1 w1 => ⟨_, rfl, w1.1.1, ?_⟩) (fun c => ⟨_, rfl, q.1.1, ?_⟩)
  · rw [if_pos c] at hok hq
    have hin : i < n := by
      rcases Nat.lt_or_ge i n with k | k
      · exact k
      · have : i = n := by omega
        rw [this, t2] at c
        omega
    (first | refine ⟨fun _ => ?_, fun n_ => absurd (show ¬ (1 : Int32) = 0 by decide) n_⟩ | refine ⟨fun n_ => absurd (show ¬ (1 : Int32) = 0 by decide) n_, fun _ => ?_⟩ | refine ⟨fun y_ => absurd y_ (show ¬ (1 : Int32) = 0 by decide), fun _ => ?_⟩ | refine ⟨fun _ => ?_, fun y_ => absurd y_ (show ¬ (1 : Int32) = 0 by decide)⟩)
    cases rec with
    | none => exact absurd (show false = true from hok) (by decide)
    | some f =>
      obtain ⟨okf, hf⟩ := hrec f rfl
      dsimp only at hok hq
      by_cases c2 : (f (i + 1) lv).1 = true
      · rw [if_pos c2] at hok hq
        by_cases c3 : cs (f (i + 1) lv).2.1 = 193
        · rw [if_pos c3] at hok hq
          refine hf _ h1 (i + 1) lv live br (by omega) hl c2 w1 (fun v h17 br' w17 r17 => ⟨_, rfl, w17.1.1, ?_⟩)
          rintro h20 rfl
          exact hq v _ br' (ex_go w17) r17
        · rw [if_neg c3] at hok
          exact absurd (show false = true from hok) (by decide)
      · rw [if_neg c2] at hok
        exact absurd hok c2
  · rw [if_neg c] at hok hq
    (first | refine ⟨fun _ => ?_, fun n_ => absurd (show (0 : Int32) = 0 by rfl) n_⟩ | refine ⟨fun n_ => absurd (show (0 : Int32) = 0 by rfl) n_, fun _ => ?_⟩ | refine ⟨fun y_ => absurd y_ (show (0 : Int32) = 0 by rfl), fun _ => ?_⟩ | refine ⟨fun _ => ?_, fun y_ => absurd y_ (show (0 : Int32) = 0 by rfl)⟩)
    by_cases k : (cs i = 50 ∧ vs i ≤ 1000) ∨ isV (cs i) = true
    · rw [if_pos k] at hok hq
      by_cases l5 : lv = 50
      · rw [if_pos l5] at hok
        exact absurd (show false = true from hok) (by decide)
      rw [if_neg l5] at hok hq
      have hin : i < n := by
        rcases Nat.lt_or_ge i n with z | z
        · exact z
        · have : i = n := by omega
          rw [this, t2] at k
          rcases k with k | k
          · omega
          · rw [t3] at k; exact absurd k (by decide)
      obtain ⟨c1, c2⟩ := cdA t q hi
      refine ⟨c2, ?_⟩
      rw [c1]
      rintro h6 rfl
      have q6 := ex_go q
      have e22 : ah_i (ah_si h 82 20 (ah_i h 82 20 + 1)) 82 22 = bI br := q6.2.2
      have dead : ¬ (live = true ∧ br = false) → Q (some (.long (0 : Int64))) (ah_si h 82 20 (ah_i h 82 20 + 1)) := fun z => hq 0 _ br q6 ⟨fun _ => rfl, fun l1 l2 => absurd ⟨l1, l2⟩ z⟩
      cases live
      · (first | refine ⟨fun _ => ?_, fun n_ => absurd (show bI false = 0 by rfl) n_⟩ | refine ⟨fun n_ => absurd (show bI false = 0 by rfl) n_, fun _ => ?_⟩ | refine ⟨fun y_ => absurd y_ (show bI false = 0 by rfl), fun _ => ?_⟩ | refine ⟨fun _ => ?_, fun y_ => absurd y_ (show bI false = 0 by rfl)⟩)
        exact dead (fun z => absurd z.1 (by decide))
      (first | refine ⟨fun _ => ?_, fun n_ => absurd (show ¬ bI true = 0 by decide) n_⟩ | refine ⟨fun n_ => absurd (show ¬ bI true = 0 by decide) n_, fun _ => ?_⟩ | refine ⟨fun y_ => absurd y_ (show ¬ bI true = 0 by decide), fun _ => ?_⟩ | refine ⟨fun _ => ?_, fun y_ => absurd y_ (show ¬ bI true = 0 by decide)⟩)
      cases br
      · (first | refine ⟨fun _ => ?_, fun n_ => absurd (show ah_i (ah_si h 82 20 (ah_i h 82 20 + 1)) 82 22 = 0 from e22) n_⟩ | refine ⟨fun n_ => absurd (show ah_i (ah_si h 82 20 (ah_i h 82 20 + 1)) 82 22 = 0 from e22) n_, fun _ => ?_⟩ | refine ⟨fun y_ => absurd y_ (show ah_i (ah_si h 82 20 (ah_i h 82 20 + 1)) 82 22 = 0 from e22), fun _ => ?_⟩ | refine ⟨fun _ => ?_, fun y_ => absurd y_ (show ah_i (ah_si h 82 20 (ah_i h 82 20 + 1)) 82 22 = 0 from e22)⟩)
        by_cases z5 : cs i = 50
        · (first | refine ⟨fun _ => ?_, fun n_ => absurd (show nI (cs i) = 50 by rw [z5]; rfl) n_⟩ | refine ⟨fun n_ => absurd (show nI (cs i) = 50 by rw [z5]; rfl) n_, fun _ => ?_⟩ | refine ⟨fun y_ => absurd y_ (show nI (cs i) = 50 by rw [z5]; rfl), fun _ => ?_⟩ | refine ⟨fun _ => ?_, fun y_ => absurd y_ (show nI (cs i) = 50 by rw [z5]; rfl)⟩)
          have hv : vs i ≤ 1000 := by
            rcases k with k | k
            · exact k.2
            · exact absurd z5 (t8 _ k).1
          rw [q6.2.1, show 3060 + nI (b + (i + 1)) - 1 = nI (3060 + (b + i)) by rw [n_3060, nI_add, n_1, nI_sub (by omega)]; rfl, nI_clamp (by omega), ah_i_sn (by omega), (t6 i hin).2, ah_n_si]
          refine ⟨by rw [n84 q.1.1]; exact (vp_nI (by omega)).mpr (by omega), hq _ _ false q6 ⟨fun z => rfl, fun _ _ => ?_⟩⟩
          show ((if cs i = 50 then (fun _ => some (vs i : Int)) else fun w => some (w (cs i - 8)) : Mg) w = none → _) ∧ ∀ x, (if cs i = 50 then (fun _ => some (vs i : Int)) else fun w => some (w (cs i - 8)) : Mg) w = some x → _
          rw [if_pos z5]
          refine ⟨fun y => (by cases y), fun x y => ?_⟩
          cases y
          refine ⟨rfl, ?_, by omega, by omega⟩
          rw [Int32.toInt_toInt64, nI_toInt (by omega)]
        · (first | refine ⟨fun _ => ?_, fun n_ => absurd (show ¬ nI (cs i) = 50 by rw [n_50, nI_eq (by omega) (by omega)]; exact z5) n_⟩ | refine ⟨fun n_ => absurd (show ¬ nI (cs i) = 50 by rw [n_50, nI_eq (by omega) (by omega)]; exact z5) n_, fun _ => ?_⟩ | refine ⟨fun y_ => absurd y_ (show ¬ nI (cs i) = 50 by rw [n_50, nI_eq (by omega) (by omega)]; exact z5), fun _ => ?_⟩ | refine ⟨fun _ => ?_, fun y_ => absurd y_ (show ¬ nI (cs i) = 50 by rw [n_50, nI_eq (by omega) (by omega)]; exact z5)⟩)
          have kv : isV (cs i) = true := by
            rcases k with k | k
            · exact absurd k.1 z5
            · exact k
          obtain ⟨_, _, b1, b2⟩ := t8 _ kv
          have e23 : ah_i (ah_si h 82 20 (ah_i h 82 20 + 1)) 82 23 = ah_i h 82 23 := ah_i_sn (by omega)
          have fin : ∀ y : Int32, y.toInt = w (cs i - 8) → Q (some (.long y.toInt64)) (ah_si h 82 20 (ah_i h 82 20 + 1)) := by
            intro y hy
            refine hq _ _ false q6 ⟨fun z => rfl, fun _ _ => ?_⟩
            show ((if cs i = 50 then (fun _ => some (vs i : Int)) else fun w => some (w (cs i - 8)) : Mg) w = none → _) ∧ ∀ x, (if cs i = 50 then (fun _ => some (vs i : Int)) else fun w => some (w (cs i - 8)) : Mg) w = some x → _
            rw [if_neg z5]
            refine ⟨fun y => (by cases y), fun x y => ?_⟩
            cases y
            exact ⟨rfl, by rw [Int32.toInt_toInt64]; exact hy, b1, b2⟩
          rw [e23]
          rcases t9 with ⟨r1, r2⟩ | ⟨r1, r2⟩
          · (first | refine ⟨fun _ => ?_, fun n_ => absurd (r1) n_⟩ | refine ⟨fun n_ => absurd (r1) n_, fun _ => ?_⟩ | refine ⟨fun y_ => absurd y_ (r1), fun _ => ?_⟩ | refine ⟨fun _ => ?_, fun y_ => absurd y_ (r1)⟩)
            obtain ⟨g1, g2, g3⟩ := r2 _ kv
            rw [n_8, nI_sub g1, nI_clamp (by omega), ah_i_sn (by omega), ah_n_si]
            exact ⟨by rw [sh_n q.1.1 93 8 (by decide) (by decide) rfl]; exact (vp_nI (by omega)).mpr (by omega), fin _ g3⟩
          · (first | refine ⟨fun _ => ?_, fun n_ => absurd (show ¬ ah_i h 82 23 = 0 by rw [r1]; decide) n_⟩ | refine ⟨fun n_ => absurd (show ¬ ah_i h 82 23 = 0 by rw [r1]; decide) n_, fun _ => ?_⟩ | refine ⟨fun y_ => absurd y_ (show ¬ ah_i h 82 23 = 0 by rw [r1]; decide), fun _ => ?_⟩ | refine ⟨fun _ => ?_, fun y_ => absurd y_ (show ¬ ah_i h 82 23 = 0 by rw [r1]; decide)⟩)
            rcases r2 _ kv with ⟨g1, g3⟩ | ⟨g1, g2, g3⟩
            · (first | refine ⟨fun _ => ?_, fun n_ => absurd (show nI (cs i) = 14 by rw [g1]; rfl) n_⟩ | refine ⟨fun n_ => absurd (show nI (cs i) = 14 by rw [g1]; rfl) n_, fun _ => ?_⟩ | refine ⟨fun y_ => absurd y_ (show nI (cs i) = 14 by rw [g1]; rfl), fun _ => ?_⟩ | refine ⟨fun _ => ?_, fun y_ => absurd y_ (show nI (cs i) = 14 by rw [g1]; rfl)⟩)
              rw [show Int32.toNatClampNeg 242 = 242 from rfl, ah_i_sn (by omega)]
              exact fin _ (by rw [g3, g1])
            · (first | refine ⟨fun _ => ?_, fun n_ => absurd (show ¬ nI (cs i) = 14 by rw [n_14, nI_eq (by omega) (by omega)]; omega) n_⟩ | refine ⟨fun n_ => absurd (show ¬ nI (cs i) = 14 by rw [n_14, nI_eq (by omega) (by omega)]; omega) n_, fun _ => ?_⟩ | refine ⟨fun y_ => absurd y_ (show ¬ nI (cs i) = 14 by rw [n_14, nI_eq (by omega) (by omega)]; omega), fun _ => ?_⟩ | refine ⟨fun _ => ?_, fun y_ => absurd y_ (show ¬ nI (cs i) = 14 by rw [n_14, nI_eq (by omega) (by omega)]; omega)⟩)
              rw [n_16, nI_sub g1, nI_clamp (by omega), ah_i_sn (by omega), ah_n_si]
              exact ⟨by rw [sh_n q.1.1 94 5 (by decide) (by decide) rfl]; exact (vp_nI (by omega)).mpr (by omega), fin _ g3⟩
      · (first | refine ⟨fun _ => ?_, fun n_ => absurd (show ¬ ah_i (ah_si h 82 20 (ah_i h 82 20 + 1)) 82 22 = 0 by rw [e22]; decide) n_⟩ | refine ⟨fun n_ => absurd (show ¬ ah_i (ah_si h 82 20 (ah_i h 82 20 + 1)) 82 22 = 0 by rw [e22]; decide) n_, fun _ => ?_⟩ | refine ⟨fun y_ => absurd y_ (show ¬ ah_i (ah_si h 82 20 (ah_i h 82 20 + 1)) 82 22 = 0 by rw [e22]; decide), fun _ => ?_⟩ | refine ⟨fun _ => ?_, fun y_ => absurd y_ (show ¬ ah_i (ah_si h 82 20 (ah_i h 82 20 + 1)) 82 22 = 0 by rw [e22]; decide)⟩)
        exact dead (fun z => absurd z.2 (by decide))
    · rw [if_neg k] at hok
      exact absurd (show false = true from hok) (by decide)
end EV
