/-! ===== the class's reader: plain tests ===== -/
section CR
variable {cs vs : Nat → Nat} {isV : Nat → Bool} {n : Nat} {h0 h : ah_T}
theorem wdL_inj : ∀ a, a ≤ 25 → ∀ b, b ≤ 25 → 1 ≤ b → (wdL.getD a 98 = wdL.getD b 98 ↔ a = b) := by decide
/-- a word of the languages -/
theorem tkA_word (t : Ck cs vs isV n h) {k c : Nat} (hk : k ≤ n) (hc1 : 1 ≤ c) (hc2 : c ≤ 25) : tkA cs vs n k = wdL.getD c 98 ↔ cs k = c := by
  have hw := (wdL_lt c hc2).1
  have ne98 : ∀ c, 1 ≤ c → c ≤ 25 → wdL.getD c 98 ≤ 24 := by
    intro c h1 h2
    have : ∀ c, c ≤ 25 → 1 ≤ c → wdL.getD c 98 ≤ 24 := by decide
    exact this c h2 h1
  have h24 := ne98 c hc1 hc2
  unfold tkA
  rcases Nat.lt_or_ge k n with z | z
  · rw [if_pos z]
    have hc := (t.2.2.2.1 k z).2
    unfold tkO
    by_cases e : cs k = 50
    · rw [if_pos e]; omega
    · rw [if_neg e]
      by_cases e2 : 100 ≤ cs k
      · rw [if_pos e2]; omega
      · rw [if_neg e2]
        exact wdL_inj (cs k) (by omega) c hc2 hc1
  · have : k = n := by omega
    rw [if_neg (by omega), this, t.2.1]
    omega
theorem notT_f (y : Tg) : notT false y = y := by
  funext w
  unfold notT
  cases y w <;> rfl
def depT (m : Tg) (wd : Int32) : Prop := ∀ w w' : Nat → Int, (∀ j, j < 13 → bt wd j = true → w j = w' j) → m w = m w'
theorem depT_mono {m : Tg} {wd wd' : Int32} (h : depT m wd) (hb : ∀ j, j < 32 → bt wd j = true → bt wd' j = true) : depT m wd' := fun w w' k => h w w' (fun j hj e => k j hj (hb j (by omega) e))
/-- behind a test that was read: K halves of a place a leaf, less s halves -/
def cPt (K sl : Nat) (h0 : ah_T) (r : pR Tg) (q lv : Nat) (c : Nat → Nat) (wd v : Int32) (h' : ah_T) : Prop :=
  (r.1 = true → v = 1 ∧ ∃ q' c' wd', cS h0 h' r.2.1 q' r.2.2.1 c' wd' ∧ lv + 2 ≤ r.2.2.1 ∧ 2 * q' + sl ≤ 2 * q + K * (r.2.2.1 - lv) ∧ (∀ k, k < q → c' k = c k) ∧ impT c' q q' r.2.2.2 (r.2.2.1 - lv) ∧ (∀ j, j < 32 → bt wd j = true → bt wd' j = true) ∧ depT r.2.2.2 wd') ∧
  (r.1 = false → v = 0 ∧ cFr h0 h' ∧ ah_i h' 20 6 = nI r.2.1)
theorem cPt_Sh {K sl : Nat} {r : pR Tg} {q lv : Nat} {c : Nat → Nat} {wd v : Int32} {h' : ah_T} (p : cPt K sl h0 r q lv c wd v h') : Sh h' := by
  cases e : r.1
  · exact (p.2 e).2.1.1
  · obtain ⟨_, q', c', wd', s, _⟩ := p.1 e
    exact s.1.1
def cTd (K sl : Nat) (cs vs : Nat → Nat) (isV : Nat → Bool) (n : Nat) (h0 : ah_T) (M : ab_M) (x : Int32) (f : Nat → Nat → pR Tg) : Prop :=
  ∀ (Q : Option Value → ah_T → Prop) (h : ah_T) (i q lv : Nat) (c : Nat → Nat) (wd : Int32), i ≤ n → lv ≤ 50 → 2 * q + 15 * (50 - lv) ≤ 980 → cS h0 h i q lv c wd → (∀ v h', cPt K sl h0 (f i lv) q lv c wd v h' → Q (some (.int v)) h') → Mt M [.ref 20, .int x] h Q
theorem cS_at {i q lv : Nat} {c : Nat → Nat} {wd : Int32} (s : cS h0 h i q lv c wd) : cS h0 (ah_si h 20 6 (ah_i h 20 6 + 1)) (i + 1) q lv c wd :=
  ⟨cFr_20 s.1 (.inl rfl), by rw [ah_i_ss, s.2.1, nI_1], by rw [ah_i_sn (by omega)]; exact s.2.2.1, by rw [ah_i_sn (by omega)]; exact s.2.2.2.1, by rw [ah_i_sn (by omega)]; exact s.2.2.2.2.1, fun k hk => by rw [ah_i_sn (by omega)]; exact s.2.2.2.2.2 k hk⟩
theorem ck_sg (t : Ck cs vs isV n h) {i : Nat} (hi : i ≤ n) (b : Nat) (hb : b < 256) : nI (tkA cs vs n i) - 100 = nI b ↔ cs i = 100 + b := by
  have e := tkA_sign t hi (s := 100 + b) (by omega) (by omega)
  have hle := tkA_le t hi
  rw [← e]
  constructor
  · intro z
    have : nI (tkA cs vs n i) = nI (100 + b) := by rw [← nI_add, ← z]; have := n_100; grind
    exact (nI_eq (by omega) (by omega)).mp this
  · intro z
    rw [z, ← nI_add]
    have := n_100
    grind
theorem c_aim {Q : Option Value → ah_T → Prop} {i q lv j o : Nat} {c : Nat → Nat} {wd x : Int32} (s : cS h0 h i q lv c wd) (hj : j < q) (hq : q < 500) (e : x = nI j) (ho : o < 32) (hc : c j = o) (k : ∀ h', cS h0 h' i q lv (up c j (o + 32 * q)) wd → Q none h') : Mt mX5_aim [.ref 20, .int x] h Q := by
  subst e
  obtain ⟨s1, s2, s3, s4, s5, s6⟩ := s
  refine T_X5_aim s1.1 _ ?_
  (first | refine ⟨fun _ => ?_, fun n_ => absurd (nI_pos (show j < 2 ^ 31 by omega)) n_⟩ | refine ⟨fun n_ => absurd (nI_pos (show j < 2 ^ 31 by omega)) n_, fun _ => ?_⟩ | refine ⟨fun y_ => absurd y_ (nI_pos (show j < 2 ^ 31 by omega)), fun _ => ?_⟩ | refine ⟨fun _ => ?_, fun y_ => absurd y_ (nI_pos (show j < 2 ^ 31 by omega))⟩)
  (first | refine ⟨fun _ => ?_, fun n_ => absurd (show ¬ 500 ≤ nI j from nI_ge (b := 500) (by omega) (by omega)) n_⟩ | refine ⟨fun n_ => absurd (show ¬ 500 ≤ nI j from nI_ge (b := 500) (by omega) (by omega)) n_, fun _ => ?_⟩ | refine ⟨fun y_ => absurd y_ (show ¬ 500 ≤ nI j from nI_ge (b := 500) (by omega) (by omega)), fun _ => ?_⟩ | refine ⟨fun _ => ?_, fun y_ => absurd y_ (show ¬ 500 ≤ nI j from nI_ge (b := 500) (by omega) (by omega))⟩)
  rw [nI_clamp (by omega), (s6 j hj).1, hc, s3, orc ho]
  have v : vp_in (nI j) (ah_n h 23) := by rw [sh_n s1.1 23 500 (by decide) (by decide) rfl]; exact (vp_nI (by omega)).mpr (by omega)
  refine ⟨v, v, ?_⟩
  rintro h5 rfl
  refine k _ ⟨cFr_23 s1, by rw [ah_i_sn (by omega)]; exact s2, by rw [ah_i_sn (by omega)]; exact s3, by rw [ah_i_sn (by omega)]; exact s4, by rw [ah_i_sn (by omega)]; exact s5, fun l hl => ?_⟩
  rw [ah_i_si]
  by_cases e : l = j
  · rw [if_pos ⟨rfl, e⟩, e, up_s]
    exact ⟨rfl, by omega⟩
  · rw [if_neg (fun z => e z.2), up_n e]
    exact s6 l hl
theorem c_aim0 {Q : Option Value → ah_T → Prop} (hs : Sh h) (k : Q none h) : Mt mX5_aim [.ref 20, .int (-1)] h Q := by
  refine T_X5_aim hs _ ?_
  (first | refine ⟨fun _ => ?_, fun n_ => absurd (show (-1 : Int32) < 0 by decide) n_⟩ | refine ⟨fun n_ => absurd (show (-1 : Int32) < 0 by decide) n_, fun _ => ?_⟩ | refine ⟨fun y_ => absurd y_ (show (-1 : Int32) < 0 by decide), fun _ => ?_⟩ | refine ⟨fun _ => ?_, fun y_ => absurd y_ (show (-1 : Int32) < 0 by decide)⟩)
  exact k
end CR
