/-! ===== the class's reader: terms and sums ===== -/
section CR
variable {cs vs : Nat → Nat} {isV : Nat → Bool} {n : Nat} {h0 h : ah_T}
theorem dep_mono {m : Mg} {wd wd' : Int32} (h : dep m wd) (hb : ∀ j, j < 32 → bt wd j = true → bt wd' j = true) : dep m wd' := fun w w' k => h w w' (fun j hj e => k j hj (hb j (by omega) e))
theorem dep_op {s : Nat} {f m : Mg} {wd : Int32} (h1 : dep f wd) (h2 : dep m wd) : dep (opM s f m) wd := fun w w' k => by unfold opM; rw [h1 w w' k, h2 w w' k]
/-- what is read so far, from a beginning on -/
def cAc (h0 h : ah_T) (i q lv : Nat) (c : Nat → Nat) (wd : Int32) (q0 lv0 : Nat) (c0 : Nat → Nat) (wd0 : Int32) (y : Mg) : Prop := cS h0 h i q lv c wd ∧ lv0 < lv ∧ q + 1 ≤ q0 + 3 * (lv - lv0) ∧ (∀ k, k < q0 → c k = c0 k) ∧ impS c q0 q y (lv - lv0) ∧ (∀ j, j < 32 → bt wd0 j = true → bt wd j = true) ∧ dep y wd
theorem cAc_of {r : pR Mg} {q0 lv0 : Nat} {c0 : Nat → Nat} {wd0 v : Int32} (hlt : r.1 = true → lv0 < r.2.2.1) (p : cPo h0 r q0 lv0 c0 wd0 v h) (e : r.1 = true) : ∃ q c wd, cAc h0 h r.2.1 q r.2.2.1 c wd q0 lv0 c0 wd0 r.2.2.2 := by
  obtain ⟨_, q', c', wd', s, r1, r2, r3, r4, r5⟩ := p.1 e
  exact ⟨q', c', wd', s, hlt e, r1, r2, r3, r4, r5⟩
theorem cAc_po {i q lv : Nat} {c : Nat → Nat} {wd : Int32} {q0 lv0 : Nat} {c0 : Nat → Nat} {wd0 : Int32} {y : Mg} (a : cAc h0 h i q lv c wd q0 lv0 c0 wd0 y) : cPo h0 (true, i, lv, y) q0 lv0 c0 wd0 1 h :=
  ⟨fun _ => ⟨rfl, q, c, wd, a.1, a.2.2.1, a.2.2.2.1, a.2.2.2.2.1, a.2.2.2.2.2.1, a.2.2.2.2.2.2⟩, fun z => absurd (show true = false from z) (by decide)⟩
/-- an operator joins what stands and what was read behind it -/
theorem cAc_op {Q : Option Value → ah_T → Prop} {s i q lv : Nat} {c : Nat → Nat} {wd : Int32} {q0 lv0 : Nat} {c0 : Nat → Nat} {wd0 : Int32} {y : Mg} {r : pR Mg} {v x1 : Int32} {hx : ah_T} (hs : s = 143 ∨ s = 145 ∨ s = 142 ∨ s = 147 ∨ s = 137) (a : cAc h0 h i q lv c wd q0 lv0 c0 wd0 y) (hroom : q + 3 * (50 - lv) ≤ 490) (e : r.1 = true) (hlv : lv < r.2.2.1) (hlv2 : r.2.2.1 ≤ 50) (p : cPo h0 r q lv c wd v hx) (e1 : x1 = nI (opN s))
    (k : ∀ h' q' c' wd', cAc h0 h' r.2.1 q' r.2.2.1 c' wd' q0 lv0 c0 wd0 (opM s y r.2.2.2) → q' + 3 * (50 - r.2.2.1) ≤ 490 → Sh h' → ∀ u, Q (some (.int u)) h') : Mt mX5_emit [.ref 20, .int x1, .int 0] hx Q := by
  obtain ⟨a1, a2, a3, a4, a5, a6, a7⟩ := a
  obtain ⟨_, q', c', wd', s3, r1, r2, r3, r4, r5⟩ := p.1 e
  have o32 : opN s < 32 := by unfold opN; rcases hs with rfl | rfl | rfl | rfl | rfl <;> decide
  refine c_emit (o := opN s) (v := 0) s3 (by omega) o32 (by omega) e1 rfl (fun h' s4 => k h' (q' + 1) (up c' q' (opN s + 32 * 0)) wd' ?_ (by omega) s4.1.1 _)
  have b1 := a5.1
  have b2 := r3.1
  refine ⟨s4, by omega, by omega, fun j hj => by rw [up_n (by omega), r2 j (by omega)]; exact a4 j hj, ?_, fun j hj z => r4 j hj (a6 j hj z), dep_op (dep_mono a7 r4) r5⟩
  have i1 : impS (up c' q' (opN s + 32 * 0)) q0 q y (lv - lv0) := impS_ext (fun j h1 h2 => by rw [up_n (by omega), r2 j h2]) a5
  have i2 : impS (up c' q' (opN s + 32 * 0)) q q' r.2.2.2 (r.2.2.1 - lv) := impS_ext (fun j h1 h2 => up_n (by omega)) r3
  have := impS_op hs i1 i2 (up_s _ _ _)
  rwa [show lv - lv0 + (r.2.2.1 - lv) = r.2.2.1 - lv0 by omega] at this
theorem lvlt {f : Nat → Nat → pR Mg} {i q lv : Nat} {c : Nat → Nat} {wd v : Int32} (p : cPo h0 (f i lv) q lv c wd v h) (e : (f i lv).1 = true) : lv < (f i lv).2.2.1 := by
  obtain ⟨_, q', c', wd', s, r1, r2, r3, r4, r5⟩ := p.1 e
  have := r3.2.1
  omega
theorem cr_sum {d : Nat} {x1 : Int32} {rec : Option (Nat → Nat → pR Mg)} (t : Ck cs vs isV n h0) (hd : 8 ≤ d) (hr : ∀ f, rec = some f → lvO n f) (hp : cRd cs vs isV n h0 (mX5_readPart (d - 1)) x1 (pPart cs vs isV rec)) : cRd cs vs isV n h0 (mX5_readSum d) x1 (pSum0 cs vs isV rec) := by
  have okP := pPart_ok (vs := vs) t.2.1 t.2.2.1 hr
  have okT := pTerm_ok (vs := vs) t.2.1 t.2.2.1 hr
  have h400 := t.1
  -- a term: behind its first part
  have inn : ∀ (k : Nat) (Q : Option Value → ah_T → Prop) (h : ah_T) (x2 x3 : Int32) (j : Nat) (y : Mg) (i q lv : Nat) (c : Nat → Nat) (wd : Int32) (q0 lv0 : Nat) (c0 : Nat → Nat) (wd0 : Int32), n - i < k → i ≤ n → lv ≤ 50 → j < lv → q + 3 * (50 - lv) ≤ 490 → cAc h0 h i q lv c wd q0 lv0 c0 wd0 y →
      (∀ h', (pCh cs (pPart cs vs isV rec) isMul opM k y i lv).1 = true → cPo h0 (pCh cs (pPart cs vs isV rec) isMul opM k y i lv) q0 lv0 c0 wd0 1 h' → Wp (mX5_readSum d) Q 0 0 129 [some (.ref 20), some (.int x1), some (.int x2), some (.int x3), none, none, none] [] h') →
      (∀ h', (pCh cs (pPart cs vs isV rec) isMul opM k y i lv).1 = false → cFr h0 h' → ah_i h' 20 6 = nI (pCh cs (pPart cs vs isV rec) isMul opM k y i lv).2.1 → Q (some (.int 0)) h') →
      Wp (mX5_readSum d) Q 0 0 48 [some (.ref 20), some (.int x1), some (.int x2), some (.int x3), none, some (.int (nI j)), none] [] h := by
    intro k
    induction k with
    | zero => intro Q h x2 x3 j y i q lv c wd q0 lv0 c0 wd0 hk; omega
    | succ k ih =>
      intro Q h x2 x3 j y i q lv c wd q0 lv0 c0 wd0 hk hi hl hj hroom a hok hno
      have s := a.1
      have t' := Ck_fr s.1 t
      have htk := tkA_i t' hi
      have hle := tkA_le t' hi
      have sg : ∀ b : Nat, b < 256 → (nI (tkA cs vs n i) - 100 = nI b ↔ cs i = 100 + b) := by
        intro b hb
        have e := tkA_sign t' hi (s := 100 + b) (by omega) (by omega)
        rw [← e]
        constructor
        · intro z
          have : nI (tkA cs vs n i) = nI (100 + b) := by rw [← nI_add, ← z]; have := n_100; grind
          exact (nI_eq (by omega) (by omega)).mp this
        · intro z
          rw [z, ← nI_add]
          have := n_100
          grind
      unfold pCh at hok hno
      refine T_X5_readSum_48 hd s.1.1 _ _ _ _ ?_
      rw [s.2.1, nI_clamp (by omega), htk]
      refine ⟨by rw [sh_n s.1.1 21 401 (by decide) (by decide) rfl]; exact (vp_nI (by omega)).mpr (by omega), ?_⟩
      have go : ∀ sc, (sc = 142 ∨ sc = 147 ∨ sc = 137) → cs i = sc → Wp (mX5_readSum d) Q 0 0 17 [some (.ref 20), some (.int x1), some (.int x2), some (.int x3), some (.int (nI (opN sc))), some (.int (nI j + 1)), none] [] (ah_si h 20 6 (ah_i h 20 6 + 1)) := by
        intro sc hsc ec
        have cm : isMul (cs i) = true := by rw [ec]; rcases hsc with rfl | rfl | rfl <;> rfl
        rw [if_pos cm] at hok hno
        have hin : i < n := by
          rcases Nat.lt_or_ge i n with z | z
          · exact z
          · have : i = n := by omega
            rw [this, t.2.1] at ec
            omega
        have s2 : cS h0 (ah_si h 20 6 (ah_i h 20 6 + 1)) (i + 1) q lv c wd := ⟨cFr_20 s.1 (.inl rfl), by rw [ah_i_ss, s.2.1, nI_1], by rw [ah_i_sn (by omega)]; exact s.2.2.1, by rw [ah_i_sn (by omega)]; exact s.2.2.2.1, by rw [ah_i_sn (by omega)]; exact s.2.2.2.2.1, fun k hk => by rw [ah_i_sn (by omega)]; exact s.2.2.2.2.2 k hk⟩
        have a' : cAc h0 (ah_si h 20 6 (ah_i h 20 6 + 1)) (i + 1) q lv c wd q0 lv0 c0 wd0 y := ⟨s2, a.2⟩
        obtain ⟨e1, e2, e3⟩ := okP (i + 1) lv (by omega) hl
        have on : ¬ nI (opN sc) = 0 := by rcases hsc with rfl | rfl | rfl <;> decide
        rw [nI_1]
        refine T_X5_readSum_17 hd s2.1.1 _ _ _ _ _ ?_
        (first | refine ⟨fun _ => ?_, fun n_ => absurd (show ¬ 400 ≤ nI (j + 1) from nI_ge (b := 400) (by omega) (by omega)) n_⟩ | refine ⟨fun n_ => absurd (show ¬ 400 ≤ nI (j + 1) from nI_ge (b := 400) (by omega) (by omega)) n_, fun _ => ?_⟩ | refine ⟨fun y_ => absurd y_ (show ¬ 400 ≤ nI (j + 1) from nI_ge (b := 400) (by omega) (by omega)), fun _ => ?_⟩ | refine ⟨fun _ => ?_, fun y_ => absurd y_ (show ¬ 400 ≤ nI (j + 1) from nI_ge (b := 400) (by omega) (by omega))⟩)
        refine hp _ _ (i + 1) q lv c wd (by omega) hl hroom s2 (fun v h3 p => ⟨_, rfl, cPo_Sh p, ?_⟩)
        by_cases c2 : (pPart cs vs isV rec (i + 1) lv).1 = true
        · rw [if_pos c2] at hok hno
          obtain ⟨e4, e5, e6⟩ := e3 c2
          have hv := (p.1 c2).1
          rw [hv]
          (first | refine ⟨fun _ => ?_, fun n_ => absurd (show ¬ (1 : Int32) = 0 by decide) n_⟩ | refine ⟨fun n_ => absurd (show ¬ (1 : Int32) = 0 by decide) n_, fun _ => ?_⟩ | refine ⟨fun y_ => absurd y_ (show ¬ (1 : Int32) = 0 by decide), fun _ => ?_⟩ | refine ⟨fun _ => ?_, fun y_ => absurd y_ (show ¬ (1 : Int32) = 0 by decide)⟩)
          (first | refine ⟨fun _ => ?_, fun n_ => absurd (on) n_⟩ | refine ⟨fun n_ => absurd (on) n_, fun _ => ?_⟩ | refine ⟨fun y_ => absurd y_ (on), fun _ => ?_⟩ | refine ⟨fun _ => ?_, fun y_ => absurd y_ (on)⟩)
          have hlt := lvlt p c2
          refine cAc_op (s := sc) (by omega) a' hroom c2 hlt e6 p rfl (fun h8 q8 c8 wd8 a8 room8 hs8 u => ⟨_, rfl, hs8, ?_⟩)
          rw [← ec] at a8
          exact ih Q h8 x2 x3 (j + 1) _ _ q8 _ c8 wd8 q0 lv0 c0 wd0 (by omega) e1 e6 (by omega) room8 a8 hok hno
        · rw [if_neg c2] at hno
          obtain ⟨hv, r1, r2⟩ := p.2 (Bool.eq_false_iff.mpr c2)
          rw [hv]
          (first | refine ⟨fun _ => ?_, fun n_ => absurd (show (0 : Int32) = 0 by rfl) n_⟩ | refine ⟨fun n_ => absurd (show (0 : Int32) = 0 by rfl) n_, fun _ => ?_⟩ | refine ⟨fun y_ => absurd y_ (show (0 : Int32) = 0 by rfl), fun _ => ?_⟩ | refine ⟨fun _ => ?_, fun y_ => absurd y_ (show (0 : Int32) = 0 by rfl)⟩)
          exact hno h3 (Bool.eq_false_iff.mpr c2) r1 r2
      have e86 : ∀ sc (x6 : Int32), (sc = 142 ∧ x6 = 42 ∨ sc = 147 ∧ x6 = 47 ∨ sc = 137 ∧ x6 = 37) → cs i = sc → Wp (mX5_readSum d) Q 0 0 86 [some (.ref 20), some (.int x1), some (.int x2), some (.int x3), none, some (.int (nI j)), some (.int x6)] [] h := by
        intro sc x6 hx ec
        refine T_X5_readSum_86 hd s.1.1 _ _ _ _ _ ?_
        rcases hx with ⟨rfl, rfl⟩ | ⟨rfl, rfl⟩ | ⟨rfl, rfl⟩
        · (first | refine ⟨fun _ => ?_, fun n_ => absurd (show (42 : Int32) = 42 by rfl) n_⟩ | refine ⟨fun n_ => absurd (show (42 : Int32) = 42 by rfl) n_, fun _ => ?_⟩ | refine ⟨fun y_ => absurd y_ (show (42 : Int32) = 42 by rfl), fun _ => ?_⟩ | refine ⟨fun _ => ?_, fun y_ => absurd y_ (show (42 : Int32) = 42 by rfl)⟩)
          rintro h30 rfl
          exact go 142 (.inl rfl) ec
        · (first | refine ⟨fun _ => ?_, fun n_ => absurd (show ¬ (47 : Int32) = 42 by decide) n_⟩ | refine ⟨fun n_ => absurd (show ¬ (47 : Int32) = 42 by decide) n_, fun _ => ?_⟩ | refine ⟨fun y_ => absurd y_ (show ¬ (47 : Int32) = 42 by decide), fun _ => ?_⟩ | refine ⟨fun _ => ?_, fun y_ => absurd y_ (show ¬ (47 : Int32) = 42 by decide)⟩)
          (first | refine ⟨fun _ => ?_, fun n_ => absurd (show (47 : Int32) = 47 by rfl) n_⟩ | refine ⟨fun n_ => absurd (show (47 : Int32) = 47 by rfl) n_, fun _ => ?_⟩ | refine ⟨fun y_ => absurd y_ (show (47 : Int32) = 47 by rfl), fun _ => ?_⟩ | refine ⟨fun _ => ?_, fun y_ => absurd y_ (show (47 : Int32) = 47 by rfl)⟩)
          rintro h27 rfl
          exact go 147 (.inr (.inl rfl)) ec
        · (first | refine ⟨fun _ => ?_, fun n_ => absurd (show ¬ (37 : Int32) = 42 by decide) n_⟩ | refine ⟨fun n_ => absurd (show ¬ (37 : Int32) = 42 by decide) n_, fun _ => ?_⟩ | refine ⟨fun y_ => absurd y_ (show ¬ (37 : Int32) = 42 by decide), fun _ => ?_⟩ | refine ⟨fun _ => ?_, fun y_ => absurd y_ (show ¬ (37 : Int32) = 42 by decide)⟩)
          (first | refine ⟨fun _ => ?_, fun n_ => absurd (show ¬ (37 : Int32) = 47 by decide) n_⟩ | refine ⟨fun n_ => absurd (show ¬ (37 : Int32) = 47 by decide) n_, fun _ => ?_⟩ | refine ⟨fun y_ => absurd y_ (show ¬ (37 : Int32) = 47 by decide), fun _ => ?_⟩ | refine ⟨fun _ => ?_, fun y_ => absurd y_ (show ¬ (37 : Int32) = 47 by decide)⟩)
          rintro h24 rfl
          exact go 137 (.inr (.inr rfl)) ec
      refine ⟨fun z => ?_, fun z => ⟨fun z2 => ?_, fun z2 => ⟨fun z3 => ?_, fun z3 => ?_⟩⟩⟩
      · rw [z]; exact e86 142 42 (.inl ⟨rfl, rfl⟩) ((sg 42 (by decide)).mp z)
      · rw [z2]; exact e86 147 47 (.inr (.inl ⟨rfl, rfl⟩)) ((sg 47 (by decide)).mp z2)
      · rw [z3]; exact e86 137 37 (.inr (.inr ⟨rfl, rfl⟩)) ((sg 37 (by decide)).mp z3)
      · have cm : ¬ isMul (cs i) = true := by
          unfold isMul
          simp
          exact ⟨⟨fun e => z ((sg 42 (by decide)).mpr e), fun e => z2 ((sg 47 (by decide)).mpr e)⟩, fun e => z3 ((sg 37 (by decide)).mpr e)⟩
        rw [if_neg cm] at hok
        exact hok h rfl (cAc_po a)
  -- a term
  have trm : ∀ (Q : Option Value → ah_T → Prop) (h : ah_T) (x2 x3 : Int32) (i q lv : Nat) (c : Nat → Nat) (wd : Int32), i ≤ n → lv ≤ 50 → q + 3 * (50 - lv) ≤ 490 → cS h0 h i q lv c wd →
      (∀ h', (pTerm cs vs isV rec i lv).1 = true → cPo h0 (pTerm cs vs isV rec i lv) q lv c wd 1 h' → Wp (mX5_readSum d) Q 0 0 129 [some (.ref 20), some (.int x1), some (.int x2), some (.int x3), none, none, none] [] h') →
      (∀ h', (pTerm cs vs isV rec i lv).1 = false → cFr h0 h' → ah_i h' 20 6 = nI (pTerm cs vs isV rec i lv).2.1 → Q (some (.int 0)) h') →
      Wp (mX5_readSum d) Q 0 0 17 [some (.ref 20), some (.int x1), some (.int x2), some (.int x3), some (.int 0), some (.int 0), none] [] h := by
    intro Q h x2 x3 i q lv c wd hi hl hroom s hok hno
    unfold pTerm pChain at hok hno
    obtain ⟨e1, e2, e3⟩ := okP i lv hi hl
    refine T_X5_readSum_17 hd s.1.1 _ _ _ _ _ ?_
    (first | refine ⟨fun _ => ?_, fun n_ => absurd (show ¬ (400 : Int32) ≤ 0 by decide) n_⟩ | refine ⟨fun n_ => absurd (show ¬ (400 : Int32) ≤ 0 by decide) n_, fun _ => ?_⟩ | refine ⟨fun y_ => absurd y_ (show ¬ (400 : Int32) ≤ 0 by decide), fun _ => ?_⟩ | refine ⟨fun _ => ?_, fun y_ => absurd y_ (show ¬ (400 : Int32) ≤ 0 by decide)⟩)
    refine hp _ _ i q lv c wd hi hl hroom s (fun v h3 p => ⟨_, rfl, cPo_Sh p, ?_⟩)
    by_cases c2 : (pPart cs vs isV rec i lv).1 = true
    · rw [if_pos c2] at hok hno
      obtain ⟨e4, e5, e6⟩ := e3 c2
      have hv := (p.1 c2).1
      rw [hv]
      (first | refine ⟨fun _ => ?_, fun n_ => absurd (show ¬ (1 : Int32) = 0 by decide) n_⟩ | refine ⟨fun n_ => absurd (show ¬ (1 : Int32) = 0 by decide) n_, fun _ => ?_⟩ | refine ⟨fun y_ => absurd y_ (show ¬ (1 : Int32) = 0 by decide), fun _ => ?_⟩ | refine ⟨fun _ => ?_, fun y_ => absurd y_ (show ¬ (1 : Int32) = 0 by decide)⟩)
      (first | refine ⟨fun _ => ?_, fun n_ => absurd (show (0 : Int32) = 0 by rfl) n_⟩ | refine ⟨fun n_ => absurd (show (0 : Int32) = 0 by rfl) n_, fun _ => ?_⟩ | refine ⟨fun y_ => absurd y_ (show (0 : Int32) = 0 by rfl), fun _ => ?_⟩ | refine ⟨fun _ => ?_, fun y_ => absurd y_ (show (0 : Int32) = 0 by rfl)⟩)
      have hlt := lvlt p c2
      obtain ⟨q', c', wd', a⟩ := cAc_of (fun _ => hlt) p c2
      have r1 := a.2.2.1
      exact inn 401 Q h3 x2 x3 0 _ _ q' _ c' wd' q lv c wd (by omega) e1 e6 (by omega) (by omega) a hok hno
    · rw [if_neg c2] at hno
      obtain ⟨hv, r1, r2⟩ := p.2 (Bool.eq_false_iff.mpr c2)
      rw [hv]
      (first | refine ⟨fun _ => ?_, fun n_ => absurd (show (0 : Int32) = 0 by rfl) n_⟩ | refine ⟨fun n_ => absurd (show (0 : Int32) = 0 by rfl) n_, fun _ => ?_⟩ | refine ⟨fun y_ => absurd y_ (show (0 : Int32) = 0 by rfl), fun _ => ?_⟩ | refine ⟨fun _ => ?_, fun y_ => absurd y_ (show (0 : Int32) = 0 by rfl)⟩)
      exact hno h3 (Bool.eq_false_iff.mpr c2) r1 r2
  -- behind a term that is joined: signs + and -
  have out : ∀ (k : Nat) (Q : Option Value → ah_T → Prop) (h : ah_T) (j : Nat) (y : Mg) (i q lv : Nat) (c : Nat → Nat) (wd : Int32) (q0 lv0 : Nat) (c0 : Nat → Nat) (wd0 : Int32), n - i < k → i ≤ n → lv ≤ 50 → j < lv → q + 3 * (50 - lv) ≤ 490 → cAc h0 h i q lv c wd q0 lv0 c0 wd0 y →
      (∀ v h', cPo h0 (pCh cs (pTerm cs vs isV rec) isAdd opM k y i lv) q0 lv0 c0 wd0 v h' → Q (some (.int v)) h') →
      Wp (mX5_readSum d) Q 0 0 140 [some (.ref 20), some (.int x1), none, some (.int (nI j)), none, none, none] [] h := by
    intro k
    induction k with
    | zero => intro Q h j y i q lv c wd q0 lv0 c0 wd0 hk; omega
    | succ k ih =>
      intro Q h j y i q lv c wd q0 lv0 c0 wd0 hk hi hl hj hroom a hq
      have s := a.1
      have t' := Ck_fr s.1 t
      have htk := tkA_i t' hi
      have hle := tkA_le t' hi
      have sg : ∀ b : Nat, b < 256 → (nI (tkA cs vs n i) - 100 = nI b ↔ cs i = 100 + b) := by
        intro b hb
        have e := tkA_sign t' hi (s := 100 + b) (by omega) (by omega)
        rw [← e]
        constructor
        · intro z
          have : nI (tkA cs vs n i) = nI (100 + b) := by rw [← nI_add, ← z]; have := n_100; grind
          exact (nI_eq (by omega) (by omega)).mp this
        · intro z
          rw [z, ← nI_add]
          have := n_100
          grind
      unfold pCh at hq
      refine T_X5_readSum_140 hd s.1.1 _ _ ?_
      rw [s.2.1, nI_clamp (by omega), htk]
      refine ⟨by rw [sh_n s.1.1 21 401 (by decide) (by decide) rfl]; exact (vp_nI (by omega)).mpr (by omega), ?_⟩
      have go : ∀ sc, (sc = 143 ∨ sc = 145) → cs i = sc → Wp (mX5_readSum d) Q 0 0 4 [some (.ref 20), some (.int x1), some (.int (nI (opN sc))), some (.int (nI j + 1)), none, none, none] [] (ah_si h 20 6 (ah_i h 20 6 + 1)) := by
        intro sc hsc ec
        have cm : isAdd (cs i) = true := by rw [ec]; rcases hsc with rfl | rfl <;> rfl
        rw [if_pos cm] at hq
        have hin : i < n := by
          rcases Nat.lt_or_ge i n with z | z
          · exact z
          · have : i = n := by omega
            rw [this, t.2.1] at ec
            omega
        have s2 : cS h0 (ah_si h 20 6 (ah_i h 20 6 + 1)) (i + 1) q lv c wd := ⟨cFr_20 s.1 (.inl rfl), by rw [ah_i_ss, s.2.1, nI_1], by rw [ah_i_sn (by omega)]; exact s.2.2.1, by rw [ah_i_sn (by omega)]; exact s.2.2.2.1, by rw [ah_i_sn (by omega)]; exact s.2.2.2.2.1, fun k hk => by rw [ah_i_sn (by omega)]; exact s.2.2.2.2.2 k hk⟩
        have a' : cAc h0 (ah_si h 20 6 (ah_i h 20 6 + 1)) (i + 1) q lv c wd q0 lv0 c0 wd0 y := ⟨s2, a.2⟩
        obtain ⟨e1, e2, e3⟩ := okT (i + 1) lv (by omega) hl
        have on : ¬ nI (opN sc) = 0 := by rcases hsc with rfl | rfl <;> decide
        rw [nI_1]
        refine T_X5_readSum_4 hd s2.1.1 _ _ _ ?_
        (first | refine ⟨fun _ => ?_, fun n_ => absurd (show ¬ 400 ≤ nI (j + 1) from nI_ge (b := 400) (by omega) (by omega)) n_⟩ | refine ⟨fun n_ => absurd (show ¬ 400 ≤ nI (j + 1) from nI_ge (b := 400) (by omega) (by omega)) n_, fun _ => ?_⟩ | refine ⟨fun y_ => absurd y_ (show ¬ 400 ≤ nI (j + 1) from nI_ge (b := 400) (by omega) (by omega)), fun _ => ?_⟩ | refine ⟨fun _ => ?_, fun y_ => absurd y_ (show ¬ 400 ≤ nI (j + 1) from nI_ge (b := 400) (by omega) (by omega))⟩)
        refine trm Q _ _ _ (i + 1) q lv c wd (by omega) hl hroom s2 (fun h3 c2 p => ?_) (fun h3 c2 r1 r2 => ?_)
        · rw [if_pos c2] at hq
          obtain ⟨e4, e5, e6⟩ := e3 c2
          have hlt := lvlt p c2
          refine T_X5_readSum_129 hd (cPo_Sh p) _ _ _ ?_
          (first | refine ⟨fun _ => ?_, fun n_ => absurd (on) n_⟩ | refine ⟨fun n_ => absurd (on) n_, fun _ => ?_⟩ | refine ⟨fun y_ => absurd y_ (on), fun _ => ?_⟩ | refine ⟨fun _ => ?_, fun y_ => absurd y_ (on)⟩)
          refine cAc_op (s := sc) (by omega) a' hroom c2 hlt e6 p rfl (fun h8 q8 c8 wd8 a8 room8 hs8 u => ⟨_, rfl, hs8, ?_⟩)
          rw [← ec] at a8
          exact ih Q h8 (j + 1) _ _ q8 _ c8 wd8 q0 lv0 c0 wd0 (by omega) e1 e6 (by omega) room8 a8 hq
        · have c2' : ¬ (pTerm cs vs isV rec (i + 1) lv).1 = true := by rw [c2]; decide
          rw [if_neg c2'] at hq
          exact hq 0 h3 ⟨fun z => absurd z c2', fun _ => ⟨rfl, r1, r2⟩⟩
      refine ⟨fun z => ?_, fun z => ⟨fun z2 => ?_, fun z2 => ?_⟩⟩
      · rw [z]
        refine T_X5_readSum_171 hd s.1.1 _ _ _ ?_
        (first | refine ⟨fun _ => ?_, fun n_ => absurd (show (43 : Int32) = 43 by rfl) n_⟩ | refine ⟨fun n_ => absurd (show (43 : Int32) = 43 by rfl) n_, fun _ => ?_⟩ | refine ⟨fun y_ => absurd y_ (show (43 : Int32) = 43 by rfl), fun _ => ?_⟩ | refine ⟨fun _ => ?_, fun y_ => absurd y_ (show (43 : Int32) = 43 by rfl)⟩)
        rintro h37 rfl
        exact go 143 (.inl rfl) ((sg 43 (by decide)).mp z)
      · rw [z2]
        refine T_X5_readSum_171 hd s.1.1 _ _ _ ?_
        (first | refine ⟨fun _ => ?_, fun n_ => absurd (show ¬ (45 : Int32) = 43 by decide) n_⟩ | refine ⟨fun n_ => absurd (show ¬ (45 : Int32) = 43 by decide) n_, fun _ => ?_⟩ | refine ⟨fun y_ => absurd y_ (show ¬ (45 : Int32) = 43 by decide), fun _ => ?_⟩ | refine ⟨fun _ => ?_, fun y_ => absurd y_ (show ¬ (45 : Int32) = 43 by decide)⟩)
        rintro h34 rfl
        exact go 145 (.inr rfl) ((sg 45 (by decide)).mp z2)
      · have cm : ¬ isAdd (cs i) = true := by
          unfold isAdd
          simp
          exact ⟨fun e => z ((sg 43 (by decide)).mpr e), fun e => z2 ((sg 45 (by decide)).mpr e)⟩
        rw [if_neg cm] at hq
        exact T_X5_readSum_200 hd s.1.1 (hq 1 h (cAc_po a))
  intro Q h i q lv c wd hi hl hroom s hq
  unfold pSum0 pChain at hq
  obtain ⟨e1, e2, e3⟩ := okT i lv hi hl
  refine T_X5_readSum hd s.1.1 _ (T_X5_readSum_4 hd s.1.1 _ _ _ ?_)
  (first | refine ⟨fun _ => ?_, fun n_ => absurd (show ¬ (400 : Int32) ≤ 0 by decide) n_⟩ | refine ⟨fun n_ => absurd (show ¬ (400 : Int32) ≤ 0 by decide) n_, fun _ => ?_⟩ | refine ⟨fun y_ => absurd y_ (show ¬ (400 : Int32) ≤ 0 by decide), fun _ => ?_⟩ | refine ⟨fun _ => ?_, fun y_ => absurd y_ (show ¬ (400 : Int32) ≤ 0 by decide)⟩)
  refine trm Q _ _ _ i q lv c wd hi hl hroom s (fun h3 c2 p => ?_) (fun h3 c2 r1 r2 => ?_)
  · rw [if_pos c2] at hq
    obtain ⟨e4, e5, e6⟩ := e3 c2
    have hlt := lvlt p c2
    obtain ⟨q', c', wd', a⟩ := cAc_of (fun _ => hlt) p c2
    have r1 := a.2.2.1
    refine T_X5_readSum_129 hd (cPo_Sh p) _ _ _ ?_
    (first | refine ⟨fun _ => ?_, fun n_ => absurd (show (0 : Int32) = 0 by rfl) n_⟩ | refine ⟨fun n_ => absurd (show (0 : Int32) = 0 by rfl) n_, fun _ => ?_⟩ | refine ⟨fun y_ => absurd y_ (show (0 : Int32) = 0 by rfl), fun _ => ?_⟩ | refine ⟨fun _ => ?_, fun y_ => absurd y_ (show (0 : Int32) = 0 by rfl)⟩)
    exact out 401 Q h3 0 _ _ q' _ c' wd' q lv c wd (by omega) e1 e6 (by omega) (by omega) a hq
  · have c2' : ¬ (pTerm cs vs isV rec i lv).1 = true := by rw [c2]; decide
    rw [if_neg c2'] at hq
    exact hq 0 h3 ⟨fun z => absurd z c2', fun _ => ⟨rfl, r1, r2⟩⟩
/-- a sum is read by the class with so many brackets left -/
theorem cr_Sum (t : Ck cs vs isV n h0) : ∀ (e d : Nat), e ≤ 8 → 12 + 2 * e ≤ d → cRd cs vs isV n h0 (mX5_readSum d) (nI (8 - e)) (pSum cs vs isV e) := by
  intro e
  induction e with
  | zero =>
    intro d he hd
    have hr : ∀ f, (none : Option (Nat → Nat → pR Mg)) = some f → lvO n f := fun f q => by cases q
    exact cr_sum (rec := none) t (by omega) hr (cr_part t (by omega) (by omega) (fun _ => rfl) (fun f q => by cases q))
  | succ e ih =>
    intro d he hd
    have ok := pSum_ok (vs := vs) (isV := isV) t.2.1 t.2.2.1 e
    have hr : ∀ f, (some (pSum cs vs isV e)) = some f → lvO n f := fun f q => by cases q; exact ok
    have h1 := ih (d - 1 - 1) (by omega) (by omega)
    exact cr_sum (rec := some (pSum cs vs isV e)) t (by omega) hr (cr_part t (by omega) (by omega) (fun q => by cases q) (fun f q => by
      cases q
      refine ⟨by omega, ok, ?_⟩
      rw [show 8 - (e + 1) + 1 = 8 - e by omega]
      exact h1))
end CR
