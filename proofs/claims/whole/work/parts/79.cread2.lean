/-! ===== the class's reader: parts ===== -/
section CR
variable {cs vs : Nat → Nat} {isV : Nat → Bool} {n : Nat} {h0 h : ah_T}
/-- a meaning looks at no other words than these -/
def dep (m : Mg) (wd : Int32) : Prop := ∀ w w' : Nat → Int, (∀ j, j < 13 → bt wd j = true → w j = w' j) → m w = m w'
def cPo (h0 : ah_T) (r : pR Mg) (q lv : Nat) (c : Nat → Nat) (wd v : Int32) (h' : ah_T) : Prop :=
  (r.1 = true → v = 1 ∧ ∃ q' c' wd', cS h0 h' r.2.1 q' r.2.2.1 c' wd' ∧ q' + 1 ≤ q + 3 * (r.2.2.1 - lv) ∧ (∀ k, k < q → c' k = c k) ∧ impS c' q q' r.2.2.2 (r.2.2.1 - lv) ∧ (∀ j, j < 32 → bt wd j = true → bt wd' j = true) ∧ dep r.2.2.2 wd') ∧
  (r.1 = false → v = 0 ∧ cFr h0 h' ∧ ah_i h' 20 6 = nI r.2.1)
theorem cPo_Sh {r : pR Mg} {q lv : Nat} {c : Nat → Nat} {wd v : Int32} {h' : ah_T} (p : cPo h0 r q lv c wd v h') : Sh h' := by
  cases e : r.1
  · exact (p.2 e).2.1.1
  · obtain ⟨_, q', c', wd', s, _⟩ := p.1 e
    exact s.1.1
def cRd (cs vs : Nat → Nat) (isV : Nat → Bool) (n : Nat) (h0 : ah_T) (M : ab_M) (x : Int32) (f : Nat → Nat → pR Mg) : Prop :=
  ∀ (Q : Option Value → ah_T → Prop) (h : ah_T) (i q lv : Nat) (c : Nat → Nat) (wd : Int32), i ≤ n → lv ≤ 50 → q + 3 * (50 - lv) ≤ 490 → cS h0 h i q lv c wd → (∀ v h', cPo h0 (f i lv) q lv c wd v h' → Q (some (.int v)) h') → Mt M [.ref 20, .int x] h Q
theorem cr_part {d dp : Nat} {rec : Option (Nat → Nat → pR Mg)} (t : Ck cs vs isV n h0) (hd : 8 ≤ d) (hdp : dp ≤ 8) (hnone : rec = none → dp = 8) (hsome : ∀ f, rec = some f → dp < 8 ∧ lvO n f ∧ cRd cs vs isV n h0 (mX5_readSum (d - 1)) (nI (dp + 1)) f) : cRd cs vs isV n h0 (mX5_readPart d) (nI dp) (pPart cs vs isV rec) := by
  intro Q h i q lv c wd hi hl hroom s hq
  have t' := Ck_fr s.1 t
  have h400 := t'.1
  have htk := tkA_i t' hi
  have hle := tkA_le t' hi
  have v21 : vp_in (nI i) (ah_n h 21) := by rw [sh_n s.1.1 21 401 (by decide) (by decide) rfl]; exact (vp_nI (by omega)).mpr (by omega)
  have sgn := tkA_sign t' hi (s := 191) (by decide) (by decide)
  have num := tkA_num t' hi
  have wrd := tkA_wd t' hi
  refine T_X5_readPart hd s.1.1 _ ?_
  rw [s.2.1, nI_clamp (by omega), htk]
  refine ⟨v21, ?_⟩
  unfold pPart at hq
  have no : ∀ (r : pR Mg), r.1 = false → r.2.1 = i → (∀ v h', cPo h0 r q lv c wd v h' → Q (some (.int v)) h') → Q (some (.int 0)) h := fun r e1 e2 k => k 0 h ⟨fun z => by rw [e1] at z; exact absurd z (by decide), fun _ => ⟨rfl, s.1, by rw [e2]; exact s.2.1⟩⟩
  by_cases z : cs i = 191
  · rw [if_pos z] at hq
    have hin : i < n := by
      rcases Nat.lt_or_ge i n with k | k
      · exact k
      · have : i = n := by omega
        rw [this, t.2.1] at z
        omega
    (first | refine ⟨fun _ => ?_, fun n_ => absurd (show nI (tkA cs vs n i) = 191 by rw [sgn.mpr z]; rfl) n_⟩ | refine ⟨fun n_ => absurd (show nI (tkA cs vs n i) = 191 by rw [sgn.mpr z]; rfl) n_, fun _ => ?_⟩ | refine ⟨fun y_ => absurd y_ (show nI (tkA cs vs n i) = 191 by rw [sgn.mpr z]; rfl), fun _ => ?_⟩ | refine ⟨fun _ => ?_, fun y_ => absurd y_ (show nI (tkA cs vs n i) = 191 by rw [sgn.mpr z]; rfl)⟩)
    cases rec with
    | none =>
      have e8 := hnone rfl
      subst e8
      (first | refine ⟨fun _ => ?_, fun n_ => absurd (show ¬ nI 8 < 8 by decide) n_⟩ | refine ⟨fun n_ => absurd (show ¬ nI 8 < 8 by decide) n_, fun _ => ?_⟩ | refine ⟨fun y_ => absurd y_ (show ¬ nI 8 < 8 by decide), fun _ => ?_⟩ | refine ⟨fun _ => ?_, fun y_ => absurd y_ (show ¬ nI 8 < 8 by decide)⟩)
      exact no _ rfl rfl hq
    | some f =>
      obtain ⟨hlt, okf, hf⟩ := hsome f rfl
      dsimp only at hq
      (first | refine ⟨fun _ => ?_, fun n_ => absurd (show nI dp < 8 from nI_lt (b := 8) hlt (by decide)) n_⟩ | refine ⟨fun n_ => absurd (show nI dp < 8 from nI_lt (b := 8) hlt (by decide)) n_, fun _ => ?_⟩ | refine ⟨fun y_ => absurd y_ (show nI dp < 8 from nI_lt (b := 8) hlt (by decide)), fun _ => ?_⟩ | refine ⟨fun _ => ?_, fun y_ => absurd y_ (show nI dp < 8 from nI_lt (b := 8) hlt (by decide))⟩)
      rw [nI_1, nI_1]
      rintro h68 rfl
      have s2 : cS h0 (ah_si h 20 6 (nI (i + 1))) (i + 1) q lv c wd := ⟨cFr_20 s.1 (.inl rfl), ah_i_ss, by rw [ah_i_sn (by omega)]; exact s.2.2.1, by rw [ah_i_sn (by omega)]; exact s.2.2.2.1, by rw [ah_i_sn (by omega)]; exact s.2.2.2.2.1, fun k hk => by rw [ah_i_sn (by omega)]; exact s.2.2.2.2.2 k hk⟩
      obtain ⟨e1, e2, e3⟩ := okf (i + 1) lv (by omega) hl
      refine hf _ _ (i + 1) q lv c wd (by omega) hl hroom s2 (fun v h71 p => ⟨_, rfl, cPo_Sh p, ?_⟩)
      by_cases c2 : (f (i + 1) lv).1 = true
      · rw [if_pos c2] at hq
        obtain ⟨ev, q', c', wd', s3, r1, r2, r3, r4, r5⟩ := p.1 c2
        subst ev
        (first | refine ⟨fun _ => ?_, fun n_ => absurd (show ¬ (1 : Int32) = 0 by decide) n_⟩ | refine ⟨fun n_ => absurd (show ¬ (1 : Int32) = 0 by decide) n_, fun _ => ?_⟩ | refine ⟨fun y_ => absurd y_ (show ¬ (1 : Int32) = 0 by decide), fun _ => ?_⟩ | refine ⟨fun _ => ?_, fun y_ => absurd y_ (show ¬ (1 : Int32) = 0 by decide)⟩)
        have t3 := Ck_fr s3.1 t
        have htk3 := tkA_i t3 e1
        have hle3 := tkA_le t3 e1
        have sgn3 := tkA_sign t3 e1 (s := 193) (by decide) (by decide)
        rw [s3.2.1, nI_clamp (by omega), htk3]
        refine ⟨by rw [sh_n s3.1.1 21 401 (by decide) (by decide) rfl]; exact (vp_nI (by omega)).mpr (by omega), fun k => ?_, fun k => ?_⟩
        · have c3 : cs (f (i + 1) lv).2.1 = 193 := sgn3.mp ((nI_eq (b := 193) (by omega) (by decide)).mp k)
          rw [if_pos c3] at hq
          rintro h77 rfl
          rw [nI_1]
          refine hq 1 _ ⟨fun _ => ⟨rfl, q', c', wd', ⟨cFr_20 s3.1 (.inl rfl), ah_i_ss, by rw [ah_i_sn (by omega)]; exact s3.2.2.1, by rw [ah_i_sn (by omega)]; exact s3.2.2.2.1, by rw [ah_i_sn (by omega)]; exact s3.2.2.2.2.1, fun k hk => by rw [ah_i_sn (by omega)]; exact s3.2.2.2.2.2 k hk⟩, r1, r2, r3, r4, r5⟩, fun y => absurd (show true = false from y) (by decide)⟩
        · have c3 : ¬ cs (f (i + 1) lv).2.1 = 193 := fun e => k (by rw [sgn3.mpr e]; rfl)
          rw [if_neg c3] at hq
          exact hq 0 _ ⟨fun y => absurd (show false = true from y) (by decide), fun _ => ⟨rfl, s3.1, s3.2.1⟩⟩
      · rw [if_neg c2] at hq
        obtain ⟨ev, r1, r2⟩ := p.2 (Bool.eq_false_iff.mpr c2)
        subst ev
        (first | refine ⟨fun _ => ?_, fun n_ => absurd (show (0 : Int32) = 0 by rfl) n_⟩ | refine ⟨fun n_ => absurd (show (0 : Int32) = 0 by rfl) n_, fun _ => ?_⟩ | refine ⟨fun y_ => absurd y_ (show (0 : Int32) = 0 by rfl), fun _ => ?_⟩ | refine ⟨fun _ => ?_, fun y_ => absurd y_ (show (0 : Int32) = 0 by rfl)⟩)
        exact hq 0 h71 p
  · rw [if_neg z] at hq
    (first | refine ⟨fun _ => ?_, fun n_ => absurd (show ¬ nI (tkA cs vs n i) = 191 from fun e => z (sgn.mp ((nI_eq (b := 191) (by omega) (by decide)).mp e))) n_⟩ | refine ⟨fun n_ => absurd (show ¬ nI (tkA cs vs n i) = 191 from fun e => z (sgn.mp ((nI_eq (b := 191) (by omega) (by decide)).mp e))) n_, fun _ => ?_⟩ | refine ⟨fun y_ => absurd y_ (show ¬ nI (tkA cs vs n i) = 191 from fun e => z (sgn.mp ((nI_eq (b := 191) (by omega) (by decide)).mp e))), fun _ => ?_⟩ | refine ⟨fun _ => ?_, fun y_ => absurd y_ (show ¬ nI (tkA cs vs n i) = 191 from fun e => z (sgn.mp ((nI_eq (b := 191) (by omega) (by decide)).mp e)))⟩)
    have l50 : ah_i h 20 8 < 50 ↔ lv < 50 := by rw [s.2.2.2.1]; exact nI_ltI (b := 50) (by omega) (by decide)
    have wI : isV (cs i) = true → 8 ≤ cs i ∧ cs i ≤ 20 ∧ tkA cs vs n i = cs i - 8 := fun k => ⟨(t.2.2.2.2.2.1 _ k).1, (t.2.2.2.2.2.1 _ k).2, wrd.2 (t.2.2.2.2.2.1 _ k).1 (t.2.2.2.2.2.1 _ k).2⟩
    have bitI : tkA cs vs n i < 13 → ((((ah_i h 20 9) >>> (nI (tkA cs vs n i) &&& 31)) &&& 1) = 0 ↔ isV (cs i) = false) := by
      intro k
      obtain ⟨w1, w2⟩ := wrd.1.mp k
      rw [bit1_0 _ (by omega), wrd.2 w1 w2]
      have := t'.2.2.2.2.2.2 (cs i) w1 w2
      cases e1 : bt (ah_i h 20 9) (cs i - 8) <;> cases e2 : isV (cs i) <;> simp_all
    -- a number
    have nmb : (cs i = 50 ∧ vs i ≤ 1000) → ((ah_i h 20 8 < 50 → (Mt mX5_emit [.ref 20, .int 1, .int (nI (tkA cs vs n i) - 1000)] h (ab_qi fun v39 h37 => Sh h37 ∧ (∀ h40, h40 = ah_si h37 20 8 ((ah_i h37 20 8) + 1) → (∀ h43, h43 = ah_si h40 20 6 ((ah_i h40 20 6) + 1) → Q (some (.int 1)) h43))))) ∧ (¬ ah_i h 20 8 < 50 → Q (some (.int 0)) h)) := by
      intro k
      rw [if_pos (.inl k)] at hq
      rw [l50]
      refine ⟨fun l => ?_, fun l => ?_⟩
      · rw [if_neg (by omega)] at hq
        have hin : i < n := by
          rcases Nat.lt_or_ge i n with y | y
          · exact y
          · have : i = n := by omega
            rw [this, t.2.1] at k
            omega
        have ev : tkA cs vs n i = 1000 + vs i := by
          unfold tkA tkO
          rw [if_pos hin, if_pos k.1]
          omega
        refine c_emit (o := 1) (v := vs i) s (by omega) (by decide) (by omega) rfl (by rw [ev, n_1000, nI_sub (Nat.le_add_right _ _), Nat.add_sub_cancel_left]) (fun h37 s3 => ⟨_, rfl, s3.1.1, ?_⟩)
        rintro h40 rfl h43 rfl
        rw [ah_i_sn (by omega), s3.2.1, s3.2.2.2.1, nI_1, nI_1]
        refine hq 1 _ ⟨fun _ => ⟨rfl, q + 1, _, wd, ⟨cFr_20 (cFr_20 s3.1 (.inr (.inr (.inl rfl)))) (.inl rfl), ah_i_ss, by rw [ah_i_sn (by omega), ah_i_sn (by omega)]; exact s3.2.2.1, by rw [ah_i_sn (by omega), ah_i_ss], by rw [ah_i_sn (by omega), ah_i_sn (by omega)]; exact s3.2.2.2.2.1, fun k hk => by rw [ah_i_sn (by omega), ah_i_sn (by omega)]; exact s3.2.2.2.2.2 k hk⟩, by show q + 1 + 1 ≤ q + 3 * (lv + 1 - lv); omega, fun k hk => up_n (by omega), ?_, fun _ _ e => e, ?_⟩, fun y => absurd (show true = false from y) (by decide)⟩
        · show impS _ q (q + 1) (if cs i = 50 then (fun _ => some (vs i : Int)) else fun w => some (w (cs i - 8))) (lv + 1 - lv)
          rw [if_pos k.1, show lv + 1 - lv = 1 by omega]
          exact impS_num (up_s _ _ _)
        · show dep (if cs i = 50 then (fun _ => some (vs i : Int)) else fun w => some (w (cs i - 8))) wd
          rw [if_pos k.1]
          exact fun _ _ _ => rfl
      · rw [if_pos (by omega)] at hq
        exact no _ rfl rfl hq
    -- a word
    have wrdE : isV (cs i) = true → ¬ cs i = 50 → ((ah_i h 20 8 < 50 → (Mt mX5_emit [.ref 20, .int 2, .int (nI (tkA cs vs n i))] h (ab_qi fun v9 h7 => Sh h7 ∧ (∀ h10, h10 = ah_si h7 20 10 ((ah_i h7 20 10) ||| ((1 : Int32) <<< (nI (tkA cs vs n i) &&& 31))) → (∀ h13, h13 = ah_si h10 20 8 ((ah_i h10 20 8) + 1) → (∀ h16, h16 = ah_si h13 20 6 ((ah_i h13 20 6) + 1) → Q (some (.int 1)) h16)))))) ∧ (¬ ah_i h 20 8 < 50 → Q (some (.int 0)) h)) := by
      intro k n50
      obtain ⟨w1, w2, w3⟩ := wI k
      rw [if_pos (.inr k)] at hq
      rw [l50, w3]
      refine ⟨fun l => ?_, fun l => ?_⟩
      · rw [if_neg (by omega)] at hq
        refine c_emit (o := 2) (v := cs i - 8) s (by omega) (by decide) (by omega) rfl rfl (fun h37 s3 => ⟨_, rfl, s3.1.1, ?_⟩)
        rintro h10 rfl h13 rfl h16 rfl
        rw [ah_i_sn (by omega), ah_i_sn (by omega), ah_i_sn (by omega), s3.2.1, s3.2.2.2.1, nI_1, nI_1, s3.2.2.2.2.1]
        refine hq 1 _ ⟨fun _ => ⟨rfl, q + 1, _, wd ||| ((1 : Int32) <<< (nI (cs i - 8) &&& 31)), ⟨cFr_20 (cFr_20 (cFr_20 s3.1 (.inr (.inr (.inr rfl)))) (.inr (.inr (.inl rfl)))) (.inl rfl), ah_i_ss, by rw [ah_i_sn (by omega), ah_i_sn (by omega), ah_i_sn (by omega)]; exact s3.2.2.1, by rw [ah_i_sn (by omega), ah_i_ss], by rw [ah_i_sn (by omega), ah_i_sn (by omega), ah_i_ss], fun k hk => by rw [ah_i_sn (by omega), ah_i_sn (by omega), ah_i_sn (by omega)]; exact s3.2.2.2.2.2 k hk⟩, by show q + 1 + 1 ≤ q + 3 * (lv + 1 - lv); omega, fun k hk => up_n (by omega), ?_, fun j hj e => by rw [b_or, e]; rfl, ?_⟩, fun y => absurd (show true = false from y) (by decide)⟩
        · show impS _ q (q + 1) (if cs i = 50 then (fun _ => some (vs i : Int)) else fun w => some (w (cs i - 8))) (lv + 1 - lv)
          rw [if_neg n50, show lv + 1 - lv = 1 by omega]
          exact impS_word (by omega) (up_s _ _ _)
        · show dep (if cs i = 50 then (fun _ => some (vs i : Int)) else fun w => some (w (cs i - 8))) _
          rw [if_neg n50]
          intro w w' hw
          show some (w (cs i - 8)) = some (w' (cs i - 8))
          rw [hw (cs i - 8) (by omega) (by rw [b_or, b_1sh (by omega) (by omega)]; simp)]
      · rw [if_pos (by omega)] at hq
        exact no _ rfl rfl hq
    have bad : ¬ ((cs i = 50 ∧ vs i ≤ 1000) ∨ isV (cs i) = true) → Q (some (.int 0)) h := by
      intro k
      rw [if_neg k] at hq
      exact no _ rfl rfl hq
    have k1000 : nI (tkA cs vs n i) < 1000 ↔ tkA cs vs n i < 1000 := nI_ltI (b := 1000) (by omega) (by decide)
    have k2000 : (2000 : Int32) < nI (tkA cs vs n i) ↔ 2000 < tkA cs vs n i := nI_ltI (a := 2000) (by decide) (by omega)
    have k13 : (13 : Int32) ≤ nI (tkA cs vs n i) ↔ 13 ≤ tkA cs vs n i := nI_leI (a := 13) (by decide) (by omega)
    rw [k1000, k2000, k13]
    refine ⟨fun a1 => ⟨fun a2 => bad ?_, fun a2 => ⟨fun a3 => bad ?_, fun a3 => ?_⟩⟩, fun a1 => ⟨fun a2 => ⟨fun a3 => bad ?_, fun a3 => absurd a3 (by omega)⟩, fun a2 => ⟨fun a3 => nmb (num.mp ⟨by omega, by omega⟩), fun a3 => absurd a3 (by omega)⟩⟩⟩
    · rintro (k | k)
      · have := num.mpr k; omega
      · obtain ⟨w1, w2, w3⟩ := wI k; omega
    · rintro (k | k)
      · have := num.mpr k; omega
      · rw [(bitI (by omega)).mp a3] at k; exact absurd k (by decide)
    · have kv : isV (cs i) = true := by
        cases e : isV (cs i)
        · exact absurd ((bitI (by omega)).mpr e) a3
        · rfl
      have := wI kv
      exact wrdE kv (by omega)
    · rintro (k | k)
      · have := num.mpr k; omega
      · obtain ⟨w1, w2, w3⟩ := wI k; omega
end CR
