/-! ===== the model goes along a clause ===== -/
section MR
variable {cs vs : Nat → Nat} {n b : Nat} {w : Nat → Int} {h : ah_T}
abbrev isR : Nat → Bool := isVof true
/-- the model's cells while it goes along a clause -/
def gaF (h h' : ah_T) : Prop := Sh h' ∧ ah_x h' = ah_x h ∧ (∀ a, a ≠ 82 → a ≠ 94 → a ≠ 121 → eqc h h' a) ∧ ∀ j, (j < 20 ∨ j = 29 ∨ j = 49 ∨ 60 ≤ j) → j ≠ 68 → j ≠ 69 → j ≠ 72 → j ≠ 73 → j ≠ 74 → ah_i h' 82 j = ah_i h 82 j
/-- what goes before a clause -/
def gaS (cs vs : Nat → Nat) (n b : Nat) (w : Nat → Int) (h : ah_T) (A : Nat → Nat) (r : Nat) : Prop :=
  n ≤ 400 ∧ cs n = 0 ∧ b + n ≤ 2800 ∧ (∀ k, k < n → ah_i h 84 (260 + (b + k)) = nI (cs k) ∧ ah_i h 84 (3060 + (b + k)) = nI (vs k)) ∧ (∀ k, k ≤ n → cs k < 400 ∧ vs k < 2 ^ 31) ∧ (∀ k, k < 13 → -1000000000 ≤ w k ∧ w k ≤ 1000000000) ∧
  ah_i h 84 242 = nI (A 242) ∧ ah_i h 84 246 = nI (A 246) ∧ ah_i h 84 247 = nI (A 247) ∧ (nI (A 242)).toInt = w 6 ∧ (nI (A 246)).toInt = w 8 ∧ (nI (A 247)).toInt = w 9 ∧ (ah_i h 82 71).toInt = w 10 ∧ (ah_i h 82 70).toInt = w 11 ∧ (nI r).toInt = w 12
theorem isR_in {c : Nat} (h : isR c = true) : c = 14 ∨ (16 ≤ c ∧ c ≤ 20) := by
  have : (c == 14 || decide (16 ≤ c ∧ c ≤ 20)) = true := h
  rcases (Bool.or_eq_true ..).mp this with y | y
  · exact .inl (beq_iff_eq.mp y)
  · exact .inr (of_decide_eq_true y)
theorem cdB {isV : Nat → Bool} {i : Nat} (t : Lx cs vs isV n b w h) (hs : Sh h) (e20 : ah_i h 82 20 = nI (b + i)) (hi : i ≤ n) : f_X12_codeAt h (ah_i h 82 20) = nI (cs i) ∧ (¬ ah_i h 82 21 ≤ ah_i h 82 20 → vp_in (260 + ah_i h 82 20) (ah_n h 84)) := by
  obtain ⟨t1, t2, t3, t4, t5, t6, t7, t8, t9⟩ := t
  unfold f_X12_codeAt
  rw [e20, t5]
  have f1 : 260 + nI (b + i) = nI (260 + (b + i)) := by rw [n_260, nI_add]
  rcases Nat.lt_or_ge i n with z | z
  · have c : ¬ nI (b + n) ≤ nI (b + i) := nI_ge (by omega) (by omega)
    rw [if_neg c, f1, nI_clamp (by omega)]
    exact ⟨(t6 i z).1, fun _ => by rw [n84 hs]; exact (vp_nI (by omega)).mpr (by omega)⟩
  · have e : i = n := by omega
    subst e
    rw [if_pos (Int32.le_refl _), t2]
    exact ⟨rfl, fun y => absurd (Int32.le_refl _) y⟩
theorem m_passB {Q : Option Value → ah_T → Prop} {isV : Nat → Bool} {i k : Nat} {x : Int32} (t : Lx cs vs isV n b w h) (hs : Sh h) (e20 : ah_i h 82 20 = nI (b + i)) (hi : i ≤ n) (e : x = nI k) (hk : k < 400) (h1 : cs i = k → Q (some (.int 1)) (ah_si h 82 20 (nI (b + (i + 1))))) (h2 : cs i ≠ k → Q (some (.int 0)) h) : Mt mX12_passes0 [.ref 82, .int x] h Q := by
  subst e
  obtain ⟨c1, c2⟩ := cdB t hs e20 hi
  have c4 := (t.2.2.2.2.2.2.1 i hi).1
  refine T_X12_passes0 hs _ ⟨c2, ?_⟩
  rw [c1]
  refine ⟨fun z => h2 (fun y => z (by rw [y])), fun z => ?_⟩
  rw [e20, nI_1]
  rintro h3 rfl
  exact h1 ((nI_eq (by omega) (by omega)).mp z)
theorem gaF_t {h1 h2 : ah_T} (p : gaF h h1) (q : gaF h1 h2) : gaF h h2 := ⟨q.1, by rw [q.2.1, p.2.1], fun a n1 n2 n3 => eqc_trans (p.2.2.1 a n1 n2 n3) (q.2.2.1 a n1 n2 n3), fun j a1 a2 a3 a4 a5 a6 => by rw [q.2.2.2 j a1 a2 a3 a4 a5 a6, p.2.2.2 j a1 a2 a3 a4 a5 a6]⟩
theorem gaF_r (hs : Sh h) : gaF h h := ⟨hs, rfl, fun _ _ _ _ => eqc_rfl, fun _ _ _ _ _ _ _ => rfl⟩
theorem gaF_si {h1 : ah_T} {j : Nat} {x : Int32} (p : gaF h h1) (hj : (20 ≤ j ∧ j ≤ 28) ∨ j = 68 ∨ j = 69 ∨ j = 72 ∨ j = 73 ∨ j = 74) : gaF h (ah_si h1 82 j x) :=
  ⟨sh_si p.1, by rw [ah_x_si, p.2.1], fun a n1 n2 n3 => eqc_si (p.2.2.1 a n1 n2 n3) n1, fun k a1 a2 a3 a4 a5 a6 => by rw [ah_i_sn (by omega)]; exact p.2.2.2 k a1 a2 a3 a4 a5 a6⟩
theorem gaF_sl {h1 : ah_T} {j : Nat} {x : Int64} (p : gaF h h1) : gaF h (ah_sl h1 121 j x) :=
  ⟨sh_sl p.1, by rw [ah_x_sl, p.2.1], fun a n1 n2 n3 => eqc_sl (p.2.2.1 a n1 n2 n3) n3, fun k a1 a2 a3 a4 a5 a6 => by rw [ah_i_sl]; exact p.2.2.2 k a1 a2 a3 a4 a5 a6⟩
theorem gaF_ns {h1 : ah_T} {k : Nat} (p : nsF h h1 k) : gaF h h1 := ⟨p.1, p.2.1, fun a n1 _ n3 => p.2.2.1 a n1 n3, fun j a1 a2 a3 a4 a5 a6 => p.2.2.2.1 j (by omega) (by omega) a4⟩
theorem Lx_si {isV : Nat → Bool} {j : Nat} {x : Int32} (t : Lx cs vs isV n b w h) (h1 : j ≠ 21) (h2 : j ≠ 23) : Lx cs vs isV n b w (ah_si h 82 j x) := Lx_to t (ah_i_sn (by omega)) (ah_i_sn (by omega)) (fun _ _ => ah_i_sn (by omega)) (fun _ => ah_i_sn (by omega)) (fun _ => ah_i_sn (by omega))
theorem Lx_ns {isV : Nat → Bool} {h1 : ah_T} {k : Nat} (p : nsF h h1 k) (t : Lx cs vs isV n b w h) : Lx cs vs isV n b w h1 := Lx_to t (p.2.2.2.1 21 (by decide) (by decide) (by decide)) (p.2.2.2.1 23 (by decide) (by decide) (by decide)) (fun j _ => (p.2.2.1 84 (by decide) (by decide)).1 j) (fun j => (p.2.2.1 93 (by decide) (by decide)).1 j) (fun j => (p.2.2.1 94 (by decide) (by decide)).1 j)
theorem m_goesAlong {Q : Option Value → ah_T → Prop} (hs : Sh h) {A : Nat → Nat} {i lv r : Nat} {live : Bool} {x1 x2 x3 : Int32} (g : gaS cs vs n b w h A r) (hi : i ≤ n) (hl : lv ≤ 50) (hp : (pRnd cs vs isR i lv).1 = true) (e67 : ah_i h 82 67 = nI (b + i)) (ex : x1 = nI (b + n)) (ey : x2 = nI r) (ez : x3 = bI live)
    (hq : ∀ h', gaF h h' → ah_i h' 82 20 = nI (b + ((pRnd cs vs isR i lv).2.1 + 1)) → ah_i h' 82 68 = nI (pRnd cs vs isR i lv).2.2.2.2.2.2.2.1 → (ah_i h' 82 69 = 21 ↔ (pRnd cs vs isR i lv).2.2.2.1 = 3) →
      (live = true → (ah_i h' 82 73 = 0 ↔ ¬ pass (pRnd cs vs isR i lv).2.2.2 w = true) ∧ (ah_i h' 82 72 = 0 ↔ (ev1 (pRnd cs vs isR i lv).2.2.2.2.1 w = none ∨ ev1 (pRnd cs vs isR i lv).2.2.2.2.2.1 w = none ∨ ev1 (pRnd cs vs isR i lv).2.2.2.2.2.2.1 w = none)) ∧
        (∀ z, ev1 (pRnd cs vs isR i lv).2.2.2.2.1 w = some z → (ah_l h' 121 0).toInt = z ∧ -1000000000 ≤ z ∧ z ≤ 1000000000) ∧ (∀ z, ev1 (pRnd cs vs isR i lv).2.2.2.2.2.1 w = some z → (ah_l h' 121 1).toInt = z ∧ -1000000000 ≤ z ∧ z ≤ 1000000000) ∧ ∀ z, ev1 (pRnd cs vs isR i lv).2.2.2.2.2.2.1 w = some z → (ah_l h' 121 2).toInt = z ∧ -1000000000 ≤ z ∧ z ≤ 1000000000) → Q none h') : Mt mX12_goesAlong [.ref 82, .int x1, .int x2, .int x3] h Q := by
  subst ex ey ez
  obtain ⟨g1, g2, g3, g4, g5, g6, g7, g8, g9, g10, g11, g12, g13, g14, g15⟩ := g
  obtain ⟨v, hv, p1, p2, p3, p4, S1, S2, E, T, I, e1, e2, e3, e4, e5, p5, p6, er⟩ := pRnd_inv hp
  rw [er] at hq
  have hV := isVof_0 true
  have z0 : Int32.toNatClampNeg 0 = 0 := rfl
  have z1 : Int32.toNatClampNeg 1 = 1 := rfl
  have z2 : Int32.toNatClampNeg 2 = 2 := rfl
  have z3 : Int32.toNatClampNeg 3 = 3 := rfl
  have z4 : Int32.toNatClampNeg 4 = 4 := rfl
  refine T_X12_goesAlong hs _ _ _ ?_
  rw [cl_246, cl_247, z0, z1, z2, z3, z4]
  intro h1 q1 h4 q2 h7 q3 h10 q4 h13 q5 h16 q6 h19 q7 u q8
  have a1 : ah_i h4 84 246 = nI (A 246) := by rw [q2, ah_i_sn (by omega), q1, ah_i_sn (by omega)]; exact g8
  have a2 : ah_i h7 84 247 = nI (A 247) := by rw [q3, ah_i_sn (by omega), q2, ah_i_sn (by omega), q1, ah_i_sn (by omega)]; exact g9
  have a3 : ah_i h10 82 71 = ah_i h 82 71 := by rw [q4, ah_i_sn (by omega), q3, ah_i_sn (by omega), q2, ah_i_sn (by omega), q1, ah_i_sn (by omega)]
  have a4 : ah_i h13 82 70 = ah_i h 82 70 := by rw [q5, ah_i_sn (by omega), q4, ah_i_sn (by omega), q3, ah_i_sn (by omega), q2, ah_i_sn (by omega), q1, ah_i_sn (by omega)]
  have a5 : ah_i h19 82 67 = nI (b + i) := by rw [q7, ah_i_sn (by omega), q6, ah_i_sn (by omega), q5, ah_i_sn (by omega), q4, ah_i_sn (by omega), q3, ah_i_sn (by omega), q2, ah_i_sn (by omega), q1, ah_i_sn (by omega)]; exact e67
  rw [a1] at q3
  rw [a2] at q4
  rw [a3] at q5
  rw [a4] at q6
  rw [a5] at q8
  have us : Sh u := by rw [q8, q7, q6, q5, q4, q3, q2, q1]; exact sh_si (sh_si (sh_si (sh_si (sh_si (sh_si (sh_si (sh_si hs)))))))
  have ux : ah_x u = ah_x h := by rw [q8, q7, q6, q5, q4, q3, q2, q1]; rfl
  have ue : ∀ a, a ≠ 82 → a ≠ 94 → eqc h u a := fun a n1 n2 => by rw [q8, q7, q6, q5, q4, q3, q2, q1]; exact eqc_si (eqc_si (eqc_si (eqc_si (eqc_si (eqc_si (eqc_si (eqc_si eqc_rfl n1) n1) n2) n2) n2) n2) n2) n1
  have u82 : ∀ j, j ≠ 20 → j ≠ 21 → j ≠ 23 → ah_i u 82 j = ah_i h 82 j := fun j n1 n2 n3 => by rw [q8, ah_i_sn (by omega), q7, ah_i_sn (by omega), q6, ah_i_sn (by omega), q5, ah_i_sn (by omega), q4, ah_i_sn (by omega), q3, ah_i_sn (by omega), q2, ah_i_sn (by omega), q1, ah_i_sn (by omega)]
  have u20 : ah_i u 82 20 = nI (b + i) := by rw [q8, ah_i_ss]
  have u21 : ah_i u 82 21 = nI (b + n) := by rw [q8, ah_i_sn (by omega), q7, ah_i_sn (by omega), q6, ah_i_sn (by omega), q5, ah_i_sn (by omega), q4, ah_i_sn (by omega), q3, ah_i_sn (by omega), q2, ah_i_ss]
  have u23 : ah_i u 82 23 = 1 := by rw [q8, ah_i_sn (by omega), q7, ah_i_sn (by omega), q6, ah_i_sn (by omega), q5, ah_i_sn (by omega), q4, ah_i_sn (by omega), q3, ah_i_sn (by omega), q2, ah_i_sn (by omega), q1, ah_i_ss]
  have w4 : ah_i u 94 4 = nI r := by rw [q8, ah_i_sn (by omega), q7, ah_i_ss]
  have w3 : ah_i u 94 3 = ah_i h 82 70 := by rw [q8, ah_i_sn (by omega), q7, ah_i_sn (by omega), q6, ah_i_ss]
  have w2 : ah_i u 94 2 = ah_i h 82 71 := by rw [q8, ah_i_sn (by omega), q7, ah_i_sn (by omega), q6, ah_i_sn (by omega), q5, ah_i_ss]
  have w1 : ah_i u 94 1 = nI (A 247) := by rw [q8, ah_i_sn (by omega), q7, ah_i_sn (by omega), q6, ah_i_sn (by omega), q5, ah_i_sn (by omega), q4, ah_i_ss]
  have w0 : ah_i u 94 0 = nI (A 246) := by rw [q8, ah_i_sn (by omega), q7, ah_i_sn (by omega), q6, ah_i_sn (by omega), q5, ah_i_sn (by omega), q4, ah_i_sn (by omega), q3, ah_i_ss]
  clear q8 q7 q6 q5 q4 q3 q2 q1 a1 a2 a3 a4 a5
  have u84 : ∀ j, ah_i u 84 j = ah_i h 84 j := (ue 84 (by decide) (by decide)).1
  have tu : Lx cs vs isR n b w u := by
    refine ⟨g1, g2, hV, g3, u21, fun k hk => by rw [u84, u84]; exact g4 k hk, g5, fun c hc => ?_, .inr ⟨u23, fun c hc => ?_⟩⟩
    · have := isR_in hc
      exact ⟨by omega, by omega, g6 (c - 8) (by omega)⟩
    · rcases isR_in hc with y | y
      · exact .inl ⟨y, by rw [u84, g7]; exact g10⟩
      · refine .inr ⟨y.1, y.2, ?_⟩
        rcases (show c = 16 ∨ c = 17 ∨ c = 18 ∨ c = 19 ∨ c = 20 by omega) with z | z | z | z | z <;> subst z
        · rw [show 16 - 16 = 0 from rfl, w0]; exact g11
        · rw [show 17 - 16 = 1 from rfl, w1]; exact g12
        · rw [show 18 - 16 = 2 from rfl, w2]; exact g13
        · rw [show 19 - 16 = 3 from rfl, w3]; exact g14
        · rw [show 20 - 16 = 4 from rfl, w4]; exact g15
  obtain ⟨cd1, cd2⟩ := cdB tu us u20 hi
  have gu : gaF h u := ⟨us, ux, fun a n1 n2 _ => ue a n1 n2, fun j a1 a2 a3 a4 a5 a6 => u82 j (by omega) (by omega) (by omega)⟩
  have hcs := g5 i hi
  obtain ⟨o1, o2, o3⟩ := pSum_ok (vs := vs) g2 hV 8 (i + 1) lv (lt_n g2 hi (by omega)) hl
  rw [← e1] at p1 p2 p3 p4 o1 o2 o3
  rw [← e2] at p3 p4
  obtain ⟨o4, o5, o6⟩ := pSum_ok (vs := vs) g2 hV 8 (S1.2.1 + 1) S1.2.2.1 (lt_n g2 o1 (by omega)) (o3 p1).2.2
  rw [← e2] at o4 o5 o6
  rw [← e3] at p4
  obtain ⟨o7, o8, o9⟩ := pEach_ok (vs := vs) g2 hV S2.2.1 S2.2.2.1 o4 (o6 p3).2.2
  rw [← e3] at o7 o8 o9
  obtain ⟨o10, o11, o12⟩ := pTimes_ok (vs := vs) g2 E.2.1 E.2.2.1 o7 (o9 p4).2
  rw [← e4] at o10 o11 o12
  obtain ⟨o13, o14, o15⟩ := pIf_ok (vs := vs) g2 hV T.2.1 T.2.2.1 o10 (o12 p5).2
  rw [← e5] at o13 o14 o15
  have ev1s : ∀ m : Mg, ev1 (some m) w = m w := fun _ => rfl
  -- what is known of the sums
  obtain ⟨LF, eLF⟩ : ∃ LF : ah_T → Prop, LF = fun g => ah_i g 82 69 = nI (cs i) ∧ (live = true → (ah_i g 82 72 = 0 ↔ (S1.2.2.2 w = none ∨ S2.2.2.2 w = none ∨ ev1 E.2.2.2 w = none)) ∧
        (∀ z, S1.2.2.2 w = some z → (ah_l g 121 0).toInt = z ∧ -1000000000 ≤ z ∧ z ≤ 1000000000) ∧ (∀ z, S2.2.2.2 w = some z → (ah_l g 121 1).toInt = z ∧ -1000000000 ≤ z ∧ z ≤ 1000000000) ∧ ∀ z, ev1 E.2.2.2 w = some z → (ah_l g 121 2).toInt = z ∧ -1000000000 ≤ z ∧ z ≤ 1000000000) := ⟨_, rfl⟩
  have LF_si : ∀ {g : ah_T} {j : Nat} {x : Int32}, LF g → j ≠ 69 → j ≠ 72 → LF (ah_si g 82 j x) := by
    intro g j x q h1 h2
    rw [eLF] at q ⊢
    dsimp only at q ⊢
    rw [ah_i_sn (by omega), ah_i_sn (by omega)]
    exact q
  -- behind times
  have k193 : ∀ (g : ah_T), gaF h g → Lx cs vs isR n b w g → ah_i g 82 20 = nI (b + T.2.1) → ah_i g 82 68 = nI T.2.2.2 → LF g → Wp mX12_goesAlong Q 0 0 193 [some (.ref 82), none, none, some (.int (bI live))] [] g := by
    intro g fg tg e20 e68 lf
    refine T_X12_goesAlong_193 fg.1 _ ?_
    rintro h72 rfl
    have t72 := Lx_si (j := 22) (x := 0) tg (by decide) (by decide)
    have fin : ∀ (f : ah_T) (p : Bool), gaF h f → ah_i f 82 20 = nI (b + (I.2.1 + 1)) → ah_i f 82 68 = nI T.2.2.2 → LF f → ah_i f 82 73 = bI p → (live = true → (p = true ↔ pass (v, some S1.2.2.2, some S2.2.2.2, E.2.2.2, T.2.2.2, I.2.2.2) w = true)) → Q none f := by
      intro f p ff f20 f68 lf f73 hp
      rw [eLF] at lf
      obtain ⟨l0, l1⟩ := lf
      refine hq f ff f20 f68 ?_ (fun hl => ⟨?_, l1 hl⟩)
      · rw [l0, n_21, nI_eq (by omega) (by decide)]
        show cs i = 21 ↔ v = 3
        rcases hv with ⟨y1, y2⟩ | ⟨y1, y2⟩ <;> omega
      · rw [f73, ← hp hl]
        cases p <;> decide
    refine m_passB t72 (sh_si fg.1) (by rw [ah_i_sn (by omega)]; exact e20) o10 (k := 4) rfl (by omega) (fun c => ⟨_, rfl, sh_si (sh_si fg.1), ?_⟩) (fun c => ⟨_, rfl, sh_si fg.1, ?_⟩)
    · (first | refine ⟨fun _ => ?_, fun n_ => absurd (show ¬ (1 : Int32) = 0 by decide) n_⟩ | refine ⟨fun n_ => absurd (show ¬ (1 : Int32) = 0 by decide) n_, fun _ => ?_⟩ | refine ⟨fun y_ => absurd y_ (show ¬ (1 : Int32) = 0 by decide), fun _ => ?_⟩ | refine ⟨fun _ => ?_, fun y_ => absurd y_ (show ¬ (1 : Int32) = 0 by decide)⟩)
      have hin := lt_n g2 o10 (by omega)
      have hd : I = pMp some (pTest cs vs isR 8 (T.2.1 + 1) T.2.2.1) := by rw [e5]; unfold pIf; rw [if_pos c]
      have pt : (pTest cs vs isR 8 (T.2.1 + 1) T.2.2.1).1 = true := by have := p6; rw [hd] at this; exact this
      have t73 := Lx_si (j := 20) (x := nI (b + (T.2.1 + 1))) t72 (by decide) (by decide)
      refine ev_Test t73 8 60 (by omega) _ _ (T.2.1 + 1) T.2.2.1 live false hin (o12 p5).2 pt ⟨fr82_rfl (sh_si (sh_si fg.1)), ah_i_ss, by rw [ah_i_sn (by omega), ah_i_ss]; rfl⟩ (fun vb f br x R => ⟨_, rfl, x.1.1, ?_⟩)
      obtain ⟨⟨f1, f2, f3, f4⟩, f5, f6⟩ := x
      have ff : gaF h f := ⟨f1, by rw [f2, ah_x_si, ah_x_si, fg.2.1], fun a n1 n2 n3 => eqc_trans (eqc_si (eqc_si (fg.2.2.1 a n1 n2 n3) n1) n1) (f3 a n1), fun j a1 a2 a3 a4 a5 a6 => by rw [f4.1 j (by omega), ah_i_sn (by omega), ah_i_sn (by omega)]; exact fg.2.2.2 j a1 a2 a3 a4 a5 a6⟩
      have f68 : ah_i f 82 68 = nI T.2.2.2 := by rw [f4.1 68 (by decide), ah_i_sn (by omega), ah_i_sn (by omega)]; exact e68
      have lff : LF f := by
        rw [eLF] at lf ⊢
        dsimp only at lf ⊢
        have e121 := (f3 121 (by decide)).2.1
        rw [f4.1 69 (by decide), f4.1 72 (by decide), ah_i_sn (by omega), ah_i_sn (by omega), ah_i_sn (by omega), ah_i_sn (by omega)]
        simp only [e121, ah_l_si]
        exact lf
      have f20 : ah_i f 82 20 = nI (b + I.2.1) := by rw [hd]; exact f5
      have hps : live = true → ((vb && !br) = true ↔ pass (v, some S1.2.2.2, some S2.2.2.2, E.2.2.2, T.2.2.2, I.2.2.2) w = true) := by
        intro hl
        have ei : I.2.2.2 = some (pTest cs vs isR 8 (T.2.1 + 1) T.2.2.1).2.2.2 := by rw [hd]; rfl
        rw [pass_t (cl := (v, some S1.2.2.2, some S2.2.2.2, E.2.2.2, T.2.2.2, I.2.2.2)) ei]
        obtain ⟨r1, r2⟩ := R.2 hl rfl
        cases e : (pTest cs vs isR 8 (T.2.1 + 1) T.2.2.1).2.2.2 w with
        | none =>
          rw [r1 e]
          cases vb <;> simp
        | some y =>
          obtain ⟨y1, y2⟩ := r2 y e
          rw [y1, y2]
          simp
      have fin2 : ∀ (z : Int32) (p : Bool), z = bI p → (live = true → (p = true ↔ (vb && !br) = true)) → ∀ (y : Int32), Q none (ah_si (ah_si (ah_si f 82 73 y) 82 73 z) 82 20 (nI (b + (I.2.1 + 1)))) := by
        intro z p ez hz y
        exact fin _ p (gaF_si (gaF_si (gaF_si ff (by omega)) (by omega)) (by omega)) ah_i_ss (by rw [ah_i_sn (by omega), ah_i_sn (by omega), ah_i_sn (by omega)]; exact f68) (LF_si (LF_si (LF_si lff (by decide) (by decide)) (by decide) (by decide)) (by decide) (by decide)) (by rw [ah_i_sn (by omega), ah_i_ss, ez]) (fun hl => (hz hl).trans (hps hl))
      cases vb
      · (first | refine ⟨fun _ => ?_, fun n_ => absurd (show bI false = 0 by rfl) n_⟩ | refine ⟨fun n_ => absurd (show bI false = 0 by rfl) n_, fun _ => ?_⟩ | refine ⟨fun y_ => absurd y_ (show bI false = 0 by rfl), fun _ => ?_⟩ | refine ⟨fun _ => ?_, fun y_ => absurd y_ (show bI false = 0 by rfl)⟩)
        rintro h106 rfl
        rw [ah_i_ss]
        (first | refine ⟨fun _ => ?_, fun n_ => absurd (show (0 : Int32) = 0 by rfl) n_⟩ | refine ⟨fun n_ => absurd (show (0 : Int32) = 0 by rfl) n_, fun _ => ?_⟩ | refine ⟨fun y_ => absurd y_ (show (0 : Int32) = 0 by rfl), fun _ => ?_⟩ | refine ⟨fun _ => ?_, fun y_ => absurd y_ (show (0 : Int32) = 0 by rfl)⟩)
        rintro h110 rfl
        rw [ah_i_sn (show ¬ ((82 : Nat) = 82 ∧ 20 = 73) by omega), ah_i_sn (show ¬ ((82 : Nat) = 82 ∧ 20 = 73) by omega), f20, nI_1]
        rintro h113 rfl
        exact fin2 0 false rfl (fun _ => by simp) 0
      · (first | refine ⟨fun _ => ?_, fun n_ => absurd (show ¬ bI true = 0 by decide) n_⟩ | refine ⟨fun n_ => absurd (show ¬ bI true = 0 by decide) n_, fun _ => ?_⟩ | refine ⟨fun y_ => absurd y_ (show ¬ bI true = 0 by decide), fun _ => ?_⟩ | refine ⟨fun _ => ?_, fun y_ => absurd y_ (show ¬ bI true = 0 by decide)⟩)
        rintro h129 rfl
        rw [ah_i_ss]
        (first | refine ⟨fun _ => ?_, fun n_ => absurd (show ¬ (1 : Int32) = 0 by decide) n_⟩ | refine ⟨fun n_ => absurd (show ¬ (1 : Int32) = 0 by decide) n_, fun _ => ?_⟩ | refine ⟨fun y_ => absurd y_ (show ¬ (1 : Int32) = 0 by decide), fun _ => ?_⟩ | refine ⟨fun _ => ?_, fun y_ => absurd y_ (show ¬ (1 : Int32) = 0 by decide)⟩)
        rw [ah_i_sn (show ¬ ((82 : Nat) = 82 ∧ 22 = 73) by omega), f6]
        cases br
        · (first | refine ⟨fun _ => ?_, fun n_ => absurd (show bI false = 0 by rfl) n_⟩ | refine ⟨fun n_ => absurd (show bI false = 0 by rfl) n_, fun _ => ?_⟩ | refine ⟨fun y_ => absurd y_ (show bI false = 0 by rfl), fun _ => ?_⟩ | refine ⟨fun _ => ?_, fun y_ => absurd y_ (show bI false = 0 by rfl)⟩)
          rintro h146 rfl
          rw [ah_i_sn (show ¬ ((82 : Nat) = 82 ∧ 20 = 73) by omega), ah_i_sn (show ¬ ((82 : Nat) = 82 ∧ 20 = 73) by omega), f20, nI_1]
          rintro h149 rfl
          exact fin2 1 true rfl (fun _ => by simp) 1
        · (first | refine ⟨fun _ => ?_, fun n_ => absurd (show ¬ bI true = 0 by decide) n_⟩ | refine ⟨fun n_ => absurd (show ¬ bI true = 0 by decide) n_, fun _ => ?_⟩ | refine ⟨fun y_ => absurd y_ (show ¬ bI true = 0 by decide), fun _ => ?_⟩ | refine ⟨fun _ => ?_, fun y_ => absurd y_ (show ¬ bI true = 0 by decide)⟩)
          rintro h140 rfl
          rw [ah_i_sn (show ¬ ((82 : Nat) = 82 ∧ 20 = 73) by omega), ah_i_sn (show ¬ ((82 : Nat) = 82 ∧ 20 = 73) by omega), f20, nI_1]
          rintro h143 rfl
          exact fin2 0 false rfl (fun _ => by simp) 1
    · (first | refine ⟨fun _ => ?_, fun n_ => absurd (show (0 : Int32) = 0 by rfl) n_⟩ | refine ⟨fun n_ => absurd (show (0 : Int32) = 0 by rfl) n_, fun _ => ?_⟩ | refine ⟨fun y_ => absurd y_ (show (0 : Int32) = 0 by rfl), fun _ => ?_⟩ | refine ⟨fun _ => ?_, fun y_ => absurd y_ (show (0 : Int32) = 0 by rfl)⟩)
      have hd : I = (true, T.2.1, T.2.2.1, none) := by rw [e5]; unfold pIf; rw [if_neg c]
      rintro h79 rfl
      rw [ah_i_ss]
      (first | refine ⟨fun _ => ?_, fun n_ => absurd (show ¬ (1 : Int32) = 0 by decide) n_⟩ | refine ⟨fun n_ => absurd (show ¬ (1 : Int32) = 0 by decide) n_, fun _ => ?_⟩ | refine ⟨fun y_ => absurd y_ (show ¬ (1 : Int32) = 0 by decide), fun _ => ?_⟩ | refine ⟨fun _ => ?_, fun y_ => absurd y_ (show ¬ (1 : Int32) = 0 by decide)⟩)
      rw [ah_i_sn (show ¬ ((82 : Nat) = 82 ∧ 22 = 73) by omega), ah_i_ss]
      (first | refine ⟨fun _ => ?_, fun n_ => absurd (show (0 : Int32) = 0 by rfl) n_⟩ | refine ⟨fun n_ => absurd (show (0 : Int32) = 0 by rfl) n_, fun _ => ?_⟩ | refine ⟨fun y_ => absurd y_ (show (0 : Int32) = 0 by rfl), fun _ => ?_⟩ | refine ⟨fun _ => ?_, fun y_ => absurd y_ (show (0 : Int32) = 0 by rfl)⟩)
      rintro h96 rfl
      rw [ah_i_sn (show ¬ ((82 : Nat) = 82 ∧ 20 = 73) by omega), ah_i_sn (show ¬ ((82 : Nat) = 82 ∧ 20 = 73) by omega), ah_i_sn (show ¬ ((82 : Nat) = 82 ∧ 20 = 22) by omega), e20, nI_1]
      rintro h99 rfl
      have ei : I.2.2.2 = none := by rw [hd]
      refine fin _ true (gaF_si (gaF_si (gaF_si (gaF_si fg (by omega)) (by omega)) (by omega)) (by omega)) (by rw [ah_i_ss, hd]; exact congrArg nI (show b + T.2.1 + 1 = b + (T.2.1 + 1) by omega)) (by rw [ah_i_sn (by omega), ah_i_sn (by omega), ah_i_sn (by omega), ah_i_sn (by omega)]; exact e68) (LF_si (LF_si (LF_si (LF_si lf (by decide) (by decide)) (by decide) (by decide)) (by decide) (by decide)) (by decide) (by decide)) (by rw [ah_i_sn (by omega), ah_i_ss]; rfl) (fun _ => ?_)
      rw [pass_n (cl := (v, some S1.2.2.2, some S2.2.2.2, E.2.2.2, T.2.2.2, I.2.2.2)) ei]
  -- behind the sums
  have k152 : ∀ (g : ah_T), gaF h g → Lx cs vs isR n b w g → ah_i g 82 20 = nI (b + E.2.1) → LF g → Wp mX12_goesAlong Q 0 0 152 [some (.ref 82), none, none, some (.int (bI live))] [] g := by
    intro g fg tg e20 lf
    refine T_X12_goesAlong_152 fg.1 _ ?_
    rintro h58 rfl
    have t58 := Lx_si (j := 68) (x := 1) tg (by decide) (by decide)
    refine m_passB t58 (sh_si fg.1) (by rw [ah_i_sn (by omega)]; exact e20) o7 (k := 25) rfl (by omega) (fun c => ⟨_, rfl, sh_si (sh_si fg.1), ?_⟩) (fun c => ⟨_, rfl, sh_si fg.1, ?_⟩)
    · (first | refine ⟨fun _ => ?_, fun n_ => absurd (show ¬ (1 : Int32) = 0 by decide) n_⟩ | refine ⟨fun n_ => absurd (show ¬ (1 : Int32) = 0 by decide) n_, fun _ => ?_⟩ | refine ⟨fun y_ => absurd y_ (show ¬ (1 : Int32) = 0 by decide), fun _ => ?_⟩ | refine ⟨fun _ => ?_, fun y_ => absurd y_ (show ¬ (1 : Int32) = 0 by decide)⟩)
      have hin := lt_n g2 o7 (by omega)
      have hd : cs (E.2.1 + 1) = 50 ∧ T = (true, E.2.1 + 2, E.2.2.1, vs (E.2.1 + 1)) := by
        have h5 := p5
        rw [e4] at h5 ⊢
        unfold pTimes at h5 ⊢
        rw [if_pos c] at h5 ⊢
        by_cases c2 : cs (E.2.1 + 1) = 50 ∧ 1 ≤ vs (E.2.1 + 1) ∧ vs (E.2.1 + 1) ≤ 20
        · exact ⟨c2.1, by rw [if_pos c2]⟩
        · rw [if_neg c2] at h5
          exact absurd (show false = true from h5) (by decide)
      have hin2 : E.2.1 + 1 < n := lt_n g2 hin (by omega)
      rw [ah_i_ss, show (3060 : Int32) + nI (b + (E.2.1 + 1)) = nI (3060 + (b + (E.2.1 + 1))) by rw [n_3060, nI_add], nI_clamp (show 3060 + (b + (E.2.1 + 1)) < 2 ^ 31 by omega), n84 (sh_si (sh_si fg.1))]
      refine ⟨(vp_nI (by omega)).mpr (by omega), ?_⟩
      have ev : ah_i (ah_si (ah_si g 82 68 1) 82 20 (nI (b + (E.2.1 + 1)))) 84 (3060 + (b + (E.2.1 + 1))) = nI (vs (E.2.1 + 1)) := by
        rw [ah_i_sn (by omega), ah_i_sn (by omega)]
        exact (tg.2.2.2.2.2.1 _ hin2).2
      rw [ev]
      rintro h66 rfl
      rw [ah_i_sn (show ¬ ((82 : Nat) = 82 ∧ 20 = 68) by omega), ah_i_ss, nI_1]
      rintro h69 rfl
      refine k193 _ (gaF_si (gaF_si (gaF_si (gaF_si fg (by omega)) (by omega)) (by omega)) (by omega)) (Lx_si (Lx_si (Lx_si t58 (by decide) (by decide)) (by decide) (by decide)) (by decide) (by decide)) (by rw [ah_i_ss, hd.2]; exact congrArg nI (show b + (E.2.1 + 1) + 1 = b + (E.2.1 + 2) by omega)) (by rw [ah_i_sn (by omega), ah_i_ss, hd.2]) (LF_si (LF_si (LF_si (LF_si lf (by decide) (by decide)) (by decide) (by decide)) (by decide) (by decide)) (by decide) (by decide))
    · (first | refine ⟨fun _ => ?_, fun n_ => absurd (show (0 : Int32) = 0 by rfl) n_⟩ | refine ⟨fun n_ => absurd (show (0 : Int32) = 0 by rfl) n_, fun _ => ?_⟩ | refine ⟨fun y_ => absurd y_ (show (0 : Int32) = 0 by rfl), fun _ => ?_⟩ | refine ⟨fun _ => ?_, fun y_ => absurd y_ (show (0 : Int32) = 0 by rfl)⟩)
      have hd : T = (true, E.2.1, E.2.2.1, 1) := by rw [e4]; unfold pTimes; rw [if_neg c]
      exact k193 _ (gaF_si fg (by omega)) t58 (by rw [ah_i_sn (by omega), hd]; exact e20) (by rw [ah_i_ss, hd]; rfl) (LF_si lf (by decide) (by decide))
  -- the sums
  refine ⟨cd2, ?_⟩
  rw [cd1]
  rintro h26 rfl
  rw [ah_i_sn (show ¬ ((82 : Nat) = 82 ∧ 20 = 69) by omega), u20, nI_1]
  rintro h29 rfl h32 rfl
  have f32 := gaF_si (j := 72) (x := 1) (gaF_si (j := 20) (x := nI (b + i + 1)) (gaF_si (j := 69) (x := nI (cs i)) gu (by omega)) (by omega)) (by omega)
  have t32 := Lx_si (j := 72) (x := 1) (Lx_si (j := 20) (x := nI (b + i + 1)) (Lx_si (j := 69) (x := nI (cs i)) tu (by decide) (by decide)) (by decide) (by decide)) (by decide) (by decide)
  refine m_nextSum (s := true) t32 f32.1 (i := i + 1) (lv := lv) (lt_n g2 hi (by omega)) hl (by rw [← e1]; exact p1) (by rw [ah_i_sn (by omega), ah_i_ss]; exact congrArg nI (by omega)) (fun _ => by rw [ah_i_ss]; rfl) (k := 0) (by omega) rfl rfl (fun a na a20 al => ⟨rfl, na.1, ?_⟩)
  rw [← e1] at a20 al
  have fa := gaF_t f32 (gaF_ns na)
  have ta := Lx_ns na t32
  rw [a20, nI_1]
  rintro h38 rfl
  have fb := gaF_si (j := 20) (x := nI (b + S1.2.1 + 1)) fa (by omega)
  have tb := Lx_si (j := 20) (x := nI (b + S1.2.1 + 1)) ta (by decide) (by decide)
  refine m_nextSum (s := (S1.2.2.2 w).isSome) tb fb.1 (i := S1.2.1 + 1) (lv := S1.2.2.1) (lt_n g2 o1 (by omega)) (o3 p1).2.2 (by rw [← e2]; exact p3) (by rw [ah_i_ss]; exact congrArg nI (by omega)) (fun hl => by rw [ah_i_sn (by omega), (al hl).1, Bool.true_and]) (k := 1) (by omega) rfl rfl (fun c nc c20 cl => ⟨rfl, nc.1, ?_⟩)
  rw [← e2] at c20 cl
  have fc := gaF_t fb (gaF_ns nc)
  have tc := Lx_ns nc tb
  have c69 : ah_i c 82 69 = nI (cs i) := by
    rw [nc.2.2.2.1 69 (by decide) (by decide) (by decide), ah_i_sn (by omega), na.2.2.2.1 69 (by decide) (by decide) (by decide), ah_i_sn (by omega), ah_i_sn (by omega), ah_i_ss]
  have c121 : ah_l c 121 0 = ah_l a 121 0 := by rw [nc.2.2.2.2 0 (by decide), ah_l_si]
  refine m_passB tc fc.1 c20 o4 (k := 24) rfl (by omega) (fun y => ⟨_, rfl, sh_si fc.1, .inr rfl, ?_⟩) (fun y => ⟨_, rfl, fc.1, .inl rfl, ?_⟩)
  · rintro h48 rfl h51 rfl
    rw [ah_i_sl, ah_i_ss]
    (first | refine ⟨fun _ => ?_, fun n_ => absurd (show ¬ (1 : Int32) = 0 by decide) n_⟩ | refine ⟨fun n_ => absurd (show ¬ (1 : Int32) = 0 by decide) n_, fun _ => ?_⟩ | refine ⟨fun y_ => absurd y_ (show ¬ (1 : Int32) = 0 by decide), fun _ => ?_⟩ | refine ⟨fun _ => ?_, fun y_ => absurd y_ (show ¬ (1 : Int32) = 0 by decide)⟩)
    have hin := lt_n g2 o4 (by omega)
    have hd : E = pMp some (pSum cs vs isR 8 (S2.2.1 + 1) S2.2.2.1) := by rw [e3]; unfold pEach; rw [if_pos y]
    have ps : (pSum cs vs isR 8 (S2.2.1 + 1) S2.2.2.1).1 = true := by have := p4; rw [hd] at this; exact this
    have fd := gaF_sl (j := 2) (x := (0 : Int64)) (gaF_si (j := 74) (x := 1) (gaF_si (j := 20) (x := nI (b + (S2.2.1 + 1))) fc (by omega)) (by omega))
    have td : Lx cs vs isR n b w (ah_sl (ah_si (ah_si c 82 20 (nI (b + (S2.2.1 + 1)))) 82 74 1) 121 2 0) := Lx_to (Lx_si (j := 74) (x := 1) (Lx_si (j := 20) (x := nI (b + (S2.2.1 + 1))) tc (by decide) (by decide)) (by decide) (by decide)) (ah_i_sl _ _ _ _ _ _) (ah_i_sl _ _ _ _ _ _) (fun _ _ => ah_i_sl _ _ _ _ _ _) (fun _ => ah_i_sl _ _ _ _ _ _) (fun _ => ah_i_sl _ _ _ _ _ _)
    refine m_nextSum (s := ((S1.2.2.2 w).isSome && (S2.2.2.2 w).isSome)) td fd.1 (i := S2.2.1 + 1) (lv := S2.2.2.1) hin (o6 p3).2.2 ps (by rw [ah_i_sl, ah_i_sn (by omega), ah_i_ss]) (fun hl => by rw [ah_i_sl, ah_i_sn (by omega), ah_i_sn (by omega)]; exact (cl hl).1) (k := 2) (by omega) rfl rfl (fun d nd d20 dl => ⟨rfl, nd.1, k152 d (gaF_t fd (gaF_ns nd)) (Lx_ns nd td) (by rw [hd]; exact d20) ?_⟩)
    rw [eLF]
    refine ⟨by rw [nd.2.2.2.1 69 (by decide) (by decide) (by decide), ah_i_sl, ah_i_sn (by omega), ah_i_sn (by omega)]; exact c69, fun hl => ⟨?_, fun z hz => ?_, fun z hz => ?_, fun z hz => ?_⟩⟩
    · rw [(dl hl).1, hd]
      show _ ↔ (_ ∨ _ ∨ (pSum cs vs isR 8 (S2.2.1 + 1) S2.2.2.1).2.2.2 w = none)
      cases S1.2.2.2 w <;> cases S2.2.2.2 w <;> cases (pSum cs vs isR 8 (S2.2.1 + 1) S2.2.2.1).2.2.2 w <;> simp [bI]
    · rw [nd.2.2.2.2 0 (by decide), ah_l_sl, if_neg (by omega), ah_l_si, ah_l_si, c121]
      exact (al hl).2 z hz
    · rw [nd.2.2.2.2 1 (by decide), ah_l_sl, if_neg (by omega), ah_l_si, ah_l_si]
      exact (cl hl).2 z hz
    · rw [hd] at hz
      exact (dl hl).2 z hz
  · rintro h48 rfl h51 rfl
    rw [ah_i_sl, ah_i_ss]
    (first | refine ⟨fun _ => ?_, fun n_ => absurd (show (0 : Int32) = 0 by rfl) n_⟩ | refine ⟨fun n_ => absurd (show (0 : Int32) = 0 by rfl) n_, fun _ => ?_⟩ | refine ⟨fun y_ => absurd y_ (show (0 : Int32) = 0 by rfl), fun _ => ?_⟩ | refine ⟨fun _ => ?_, fun y_ => absurd y_ (show (0 : Int32) = 0 by rfl)⟩)
    have hd : E = (true, S2.2.1, S2.2.2.1, none) := by rw [e3]; unfold pEach; rw [if_neg y]
    have fd := gaF_sl (j := 2) (x := (0 : Int64)) (gaF_si (j := 74) (x := 0) fc (by omega))
    have td : Lx cs vs isR n b w (ah_sl (ah_si c 82 74 0) 121 2 0) := Lx_to (Lx_si (j := 74) (x := 0) tc (by decide) (by decide)) (ah_i_sl _ _ _ _ _ _) (ah_i_sl _ _ _ _ _ _) (fun _ _ => ah_i_sl _ _ _ _ _ _) (fun _ => ah_i_sl _ _ _ _ _ _) (fun _ => ah_i_sl _ _ _ _ _ _)
    refine k152 _ fd td (by rw [ah_i_sl, ah_i_sn (by omega), hd]; exact c20) ?_
    rw [eLF]
    refine ⟨by rw [ah_i_sl, ah_i_sn (by omega)]; exact c69, fun hl => ⟨?_, fun z hz => ?_, fun z hz => ?_, fun z hz => ?_⟩⟩
    · rw [ah_i_sl, ah_i_sn (by omega), (cl hl).1, hd]
      show _ ↔ (_ ∨ _ ∨ some (0 : Int) = none)
      cases S1.2.2.2 w <;> cases S2.2.2.2 w <;> simp [bI]
    · rw [ah_l_sl, if_neg (by omega), ah_l_si, c121]
      exact (al hl).2 z hz
    · rw [ah_l_sl, if_neg (by omega), ah_l_si]
      exact (cl hl).2 z hz
    · rw [hd] at hz
      rw [ah_l_sl, if_pos ⟨rfl, rfl⟩]
      have : z = 0 := (Option.some.inj hz).symm
      rw [this]
      exact ⟨rfl, by omega, by omega⟩
end MR
