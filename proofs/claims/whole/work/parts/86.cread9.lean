/-! ===== the class's reader: or-chains, tests ===== -/
section CR
variable {cs vs : Nat → Nat} {isV : Nat → Bool} {n : Nat} {h0 h : ah_T}
/-- where an or-chain's next part begins: at the beginning, or behind an OR that waits -/
def cOr (K : Nat) (h0 h : ah_T) (x : Int32) (i q lv : Nat) (c : Nat → Nat) (wd : Int32) (q0 lv0 : Nat) (c0 : Nat → Nat) (wd0 : Int32) (y : Option Tg) : Prop :=
  cS h0 h i q lv c wd ∧ ((x = -1 ∧ y = none ∧ q = q0 ∧ lv = lv0 ∧ (∀ k, k < q0 → c k = c0 k) ∧ ∀ j, j < 32 → bt wd0 j = true → bt wd j = true) ∨
    ∃ jo a, x = nI jo ∧ y = some a ∧ q = jo + 1 ∧ c jo = 12 ∧ lv0 + 2 ≤ lv ∧ 2 * jo + 2 ≤ 2 * q0 + K * (lv - lv0) ∧ (∀ k, k < q0 → c k = c0 k) ∧ impT c q0 jo a (lv - lv0) ∧ (∀ j, j < 32 → bt wd0 j = true → bt wd j = true) ∧ depT a wd)
def orM (y : Option Tg) (m : Tg) : Tg := match y with
  | none => m
  | some a => orT a m
theorem cOr_next {K : Nat} {x : Int32} {i q lv : Nat} {c : Nat → Nat} {wd : Int32} {q0 lv0 : Nat} {c0 : Nat → Nat} {wd0 : Int32} {y : Option Tg} {i' q' lv' : Nat} {c' : Nat → Nat} {wd' : Int32} {m : Tg} {h' : ah_T} (o : cOr K h0 h x i q lv c wd q0 lv0 c0 wd0 y) (A : cAt K h0 h' i' q' lv' c' wd' q lv c wd m) : cPd 12 K h0 h' x i' q' lv' c' wd' q0 lv0 c0 wd0 (orM y m) ∧ 2 * q' + 2 ≤ 2 * q0 + K * (lv' - lv0) ∧ lv0 ≤ lv := by
  obtain ⟨a1, a2, a3, a4, a5, a6, a7⟩ := A
  obtain ⟨s, ⟨rfl, rfl, rfl, rfl, o1, o2⟩ | ⟨jo, a, rfl, rfl, rfl, o1, o2, o3, o4, o5, o6, o7⟩⟩ := o
  · exact ⟨.inl ⟨rfl, a1, a2, a3, fun k hk => by rw [a4 k hk]; exact o1 k hk, a5, fun j hj z => a6 j hj (o2 j hj z), a7⟩, a3, Nat.le_refl _⟩
  · have e : K * (lv' - lv0) = K * (lv - lv0) + K * (lv' - lv) := by rw [← Nat.mul_add]; congr 1; omega
    have b : 2 * q' + 2 ≤ 2 * q0 + K * (lv' - lv0) := by omega
    have i1 := o5.1
    refine ⟨.inr ⟨jo, lv, a, m, rfl, rfl, by rw [a4 jo (by omega)]; exact o1, a1, by omega, by omega, by omega, b, fun k hk => by rw [a4 k (by omega)]; exact o4 k hk, impT_ext (fun k h1 h2 => a4 k (by omega)) o5, a5, fun j hj z => a6 j hj (o6 j hj z), depT_mono o7 a6, a7⟩, b, by omega⟩
theorem cr_test {d e : Nat} {x1 : Int32} {rec : Option (Nat → Nat → pR Tg)} (t : Ck cs vs isV n h0) (hd : 8 ≤ d) (he : e ≤ 8) (hr : ∀ f, rec = some f → lvO n f) (hp : cTd (6 + e) 0 cs vs isV n h0 (mX5_readPlain (d - 1)) x1 (pPlain cs vs isV e rec)) : cTd (6 + e + 1) 2 cs vs isV n h0 (mX5_readTest d) x1 (pTest0 cs vs isV e rec) := by
  have okP := pPlain_ok (vs := vs) (e := e) t.2.1 t.2.2.1 hr
  have okB := pBoth_ok (vs := vs) (e := e) t.2.1 t.2.2.1 hr
  have h400 := t.1
  -- from the beginning of an and-chain on; P says how the rest of the or-chain goes
  have key : ∀ (k : Nat) (Q : Option Value → ah_T → Prop) (h : ah_T) (x2 : Int32) (j i q lv : Nat) (c : Nat → Nat) (wd : Int32) (q0 lv0 : Nat) (c0 : Nat → Nat) (wd0 : Int32) (y : Option Tg), n - i < k → i ≤ n → lv ≤ 50 → j ≤ lv → 2 * q0 + 15 * (50 - lv0) ≤ 980 → 2 * q + 15 * (50 - lv) ≤ 980 → cOr (6 + e + 1) h0 h x2 i q lv c wd q0 lv0 c0 wd0 y →
      ((pBoth cs vs isV e rec i lv).1 = true → ∀ v h', cPt (6 + e + 1) 2 h0 (pCh cs (pBoth cs vs isV e rec) (fun c => c == 5) (fun _ => orT) k (orM y (pBoth cs vs isV e rec i lv).2.2.2) (pBoth cs vs isV e rec i lv).2.1 (pBoth cs vs isV e rec i lv).2.2.1) q0 lv0 c0 wd0 v h' → Q (some (.int v)) h') →
      ((pBoth cs vs isV e rec i lv).1 = false → ∀ h', cFr h0 h' → ah_i h' 20 6 = nI (pBoth cs vs isV e rec i lv).2.1 → Q (some (.int 0)) h') →
      Wp (mX5_readTest d) Q 0 0 4 [some (.ref 20), some (.int x1), some (.int x2), some (.int (nI j)), none, none] [] h := by
    intro k
    induction k with
    | zero => intro Q h x2 j i q lv c wd q0 lv0 c0 wd0 y hk; omega
    | succ k ih =>
      intro Q h x2 j i q lv c wd q0 lv0 c0 wd0 y hk hi hl hj hroom0 hroom o hok hno
      have s := o.1
      refine T_X5_readTest_4 hd s.1.1 _ _ _ ?_
      (first | refine ⟨fun _ => ?_, fun n_ => absurd (show ¬ 400 ≤ nI j from nI_ge (b := 400) (by omega) (by omega)) n_⟩ | refine ⟨fun n_ => absurd (show ¬ 400 ≤ nI j from nI_ge (b := 400) (by omega) (by omega)) n_, fun _ => ?_⟩ | refine ⟨fun y_ => absurd y_ (show ¬ 400 ≤ nI j from nI_ge (b := 400) (by omega) (by omega)), fun _ => ?_⟩ | refine ⟨fun _ => ?_, fun y_ => absurd y_ (show ¬ 400 ≤ nI j from nI_ge (b := 400) (by omega) (by omega))⟩)
      have hT : ∀ (h17 : ah_T) (x4' x5' : Int32), Sh h17 → (¬ 400 ≤ x5') → _ → Wp (mX5_readTest d) Q 0 0 17 [some (.ref 20), some (.int x1), some (.int x2), some (.int (nI j)), some (.int x4'), some (.int x5')] [] h17 := fun h17 x4' x5' hs h4 mt => T_X5_readTest_17 hd hs _ _ _ _ _ ⟨fun z => absurd z h4, fun _ => mt⟩
      refine hT h (-1) 0 s.1.1 (by decide) ?_
      obtain ⟨e1, e2, e3⟩ := okP i lv hi hl
      refine hp _ h i q lv c wd hi hl hroom s (fun v h23 pp => ⟨_, rfl, cPt_Sh pp, ?_⟩)
      have eB : pBoth cs vs isV e rec i lv = if (pPlain cs vs isV e rec i lv).1 = true then pCh cs (pPlain cs vs isV e rec) (fun c => c == 6) (fun _ => andT) 401 (pPlain cs vs isV e rec i lv).2.2.2 (pPlain cs vs isV e rec i lv).2.1 (pPlain cs vs isV e rec i lv).2.2.1 else pPlain cs vs isV e rec i lv := rfl
      by_cases c2 : (pPlain cs vs isV e rec i lv).1 = true
      · rw [if_pos c2] at eB
        obtain ⟨e4, e5, e6⟩ := e3 c2
        obtain ⟨ev, q', c', wd', s', l2, b, pre, im, bb, dd⟩ := pp.1 c2
        rw [ev]
        (first | refine ⟨fun _ => ?_, fun n_ => absurd (show ¬ (1 : Int32) = 0 by decide) n_⟩ | refine ⟨fun n_ => absurd (show ¬ (1 : Int32) = 0 by decide) n_, fun _ => ?_⟩ | refine ⟨fun y_ => absurd y_ (show ¬ (1 : Int32) = 0 by decide), fun _ => ?_⟩ | refine ⟨fun _ => ?_, fun y_ => absurd y_ (show ¬ (1 : Int32) = 0 by decide)⟩)
        have b2 : 2 * q' + 2 ≤ 2 * q + (6 + e + 1) * ((pPlain cs vs isV e rec i lv).2.2.1 - lv) := by
          rw [Nat.succ_mul (6 + e)]
          omega
        refine cr_ands (q0 := q) (lv0 := lv) (c0 := c) (wd0 := wd) t hd he hr hp hroom x2 (nI j) Q _ 401 h23 (-1) 0 _ q' _ c' wd' (pPlain cs vs isV e rec i lv).2.2.2 (by omega) e1 e6 (by omega) (by omega) (.inl ⟨rfl, s', l2, b2, pre, im, bb, dd⟩) b2 (fun h' q2 c2' wd2 hok2 A => ?_) (fun h' hno2 r1 r2 => ?_) hT
        · rw [← eB] at hok2 A
          obtain ⟨g1, g2, g3⟩ := okB i lv hi hl
          obtain ⟨g4, g5, g6⟩ := g3 hok2
          have hq := hok hok2
          obtain ⟨P, bq, hll⟩ := cOr_next o A
          have sA := A.1
          have lA := A.2.1
          have tA := Ck_fr sA.1 t
          have htk := tkA_i tA g1
          have hle := tkA_le tA g1
          have w5 := tkA_word tA g1 (c := 5) (by decide) (by decide)
          obtain ⟨rm1, rm2⟩ := bd_room he bq (by omega) g6 hroom0
          unfold pCh at hq
          rw [sA.2.1, nI_clamp (by omega), htk]
          refine ⟨by rw [sh_n sA.1.1 21 401 (by decide) (by decide) rfl]; exact (vp_nI (by omega)).mpr (by omega), fun z => ?_, fun z => ?_⟩
          · have c5 : cs (pBoth cs vs isV e rec i lv).2.1 = 5 := w5.mp ((nI_eq (b := 22) (by omega) (by decide)).mp z)
            rw [if_pos (by simp [c5])] at hq
            have hin : (pBoth cs vs isV e rec i lv).2.1 < n := by
              rcases Nat.lt_or_ge (pBoth cs vs isV e rec i lv).2.1 n with u | u
              · exact u
              · have : (pBoth cs vs isV e rec i lv).2.1 = n := by omega
                rw [this, t.2.1] at c5
                omega
            rw [← sA.2.1]
            rintro h43 rfl
            refine c_fix (.inl rfl) (by omega) (cPd_at P) (fun h46 c46 B => ⟨rfl, B.1.1.1, ?_⟩)
            refine c_emit (o := 12) (v := 0) B.1 (by omega) (by decide) (by decide) rfl rfl (fun h49 s49 => ⟨_, rfl, s49.1.1, ?_⟩)
            rw [nI_1]
            obtain ⟨B1, B2, B3, B4, B5, B6, B7⟩ := B
            have B8 := B5.1
            refine ih Q h49 (nI q2) (j + 1) _ (q2 + 1) _ _ wd2 q0 lv0 c0 wd0 (some (orM y (pBoth cs vs isV e rec i lv).2.2.2)) (by omega) (by omega) g6 (by omega) hroom0 rm1 ⟨s49, .inr ⟨q2, _, rfl, rfl, rfl, up_s _ _ _, B2, B3, fun k hk => by rw [up_n (by omega)]; exact B4 k hk, impT_ext (fun k h1 h2 => up_n (by omega)) B5, B6, B7⟩⟩ (fun c3 v h' r => ?_) (fun c3 h' r1 r2 => ?_)
            · rw [if_pos c3] at hq
              exact hq v h' r
            · have c3' : ¬ (pBoth cs vs isV e rec ((pBoth cs vs isV e rec i lv).2.1 + 1) (pBoth cs vs isV e rec i lv).2.2.1).1 = true := by rw [c3]; decide
              rw [if_neg c3'] at hq
              exact hq 0 h' ⟨fun u => absurd u c3', fun _ => ⟨rfl, r1, r2⟩⟩
          · have c5 : ¬ cs (pBoth cs vs isV e rec i lv).2.1 = 5 := fun u => z (by rw [w5.mpr u]; rfl)
            rw [if_neg (by simp [c5])] at hq
            refine c_fix (.inl rfl) (by omega) P (fun h52 c52 B => ⟨rfl, B.1.1.1, hq 1 h52 ⟨fun _ => ⟨rfl, q2, c52, wd2, B.1, B.2.1, B.2.2.1, B.2.2.2.1, B.2.2.2.2.1, B.2.2.2.2.2.1, B.2.2.2.2.2.2⟩, fun u => absurd (show true = false from u) (by decide)⟩⟩)
        · rw [← eB] at hno2 r2
          exact hno hno2 h' r1 r2
      · rw [if_neg c2] at eB
        obtain ⟨ev, r1, r2⟩ := pp.2 (Bool.eq_false_iff.mpr c2)
        rw [ev]
        (first | refine ⟨fun _ => ?_, fun n_ => absurd (show (0 : Int32) = 0 by rfl) n_⟩ | refine ⟨fun n_ => absurd (show (0 : Int32) = 0 by rfl) n_, fun _ => ?_⟩ | refine ⟨fun y_ => absurd y_ (show (0 : Int32) = 0 by rfl), fun _ => ?_⟩ | refine ⟨fun _ => ?_, fun y_ => absurd y_ (show (0 : Int32) = 0 by rfl)⟩)
        exact hno (by rw [eB]; exact Bool.eq_false_iff.mpr c2) h23 r1 (by rw [eB]; exact r2)
  intro Q h i q lv c wd hi hl hroom s hq
  unfold pTest0 pChain at hq
  refine T_X5_readTest hd s.1.1 _ (key 401 Q h (-1) 0 i q lv c wd q lv c wd none (by omega) hi hl (by omega) hroom hroom ⟨s, .inl ⟨rfl, rfl, rfl, rfl, fun _ _ => rfl, fun _ _ z => z⟩⟩ (fun c3 v h' r => ?_) (fun c3 h' r1 r2 => ?_))
  · rw [if_pos c3] at hq
    exact hq v h' r
  · have c3' : ¬ (pBoth cs vs isV e rec i lv).1 = true := by rw [c3]; decide
    rw [if_neg c3'] at hq
    exact hq 0 h' ⟨fun u => absurd u c3', fun _ => ⟨rfl, r1, r2⟩⟩
end CR
