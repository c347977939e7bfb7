/-! ===== nights: what drives a lamp out; the model asks that ===== -/
abbrev Ns := (Nat → Bool) × (Nat → Nat) × (Nat → Nat) × (Nat → Nat)
/-- it burns; since when; out since (0: it isn't waiting, else one more than the minute); its oil -/
abbrev Ns.bu (S : Ns) : Nat → Bool := S.1
abbrev Ns.si (S : Ns) : Nat → Nat := S.2.1
abbrev Ns.ou (S : Ns) : Nat → Nat := S.2.2.1
abbrev Ns.oi (S : Ns) : Nat → Nat := S.2.2.2
noncomputable def shL (A : Nat → Nat) (N : Nd) (S : Ns) (m l o : Nat) : Bool := shS9 A l (N.ki l) (N.ki o) (sgN A (N.co l) (N.co o)) (if S.si o < S.si l then 1 else 0) m
noncomputable def shK (A : Nat → Nat) (N : Nd) (m l k : Nat) : Bool := decide (N.pl k m ≠ 0) && shS9 A l (N.ki l) (N.lk k) (sgN A (N.co l) (N.pl k m - 1)) 1 m
def ltr (S : Ns) (o l : Nat) : Bool := decide (S.si l < S.si o ∨ (S.si o = S.si l ∧ l < o))
noncomputable def drO (A : Nat → Nat) (N : Nd) (S : Ns) (m l o : Nat) : Bool := decide (o ≠ l) && (S.bu o && (shL A N S m l o && !(ltr S o l && shL A N S m o l)))
noncomputable def drB (A : Nat → Nat) (N : Nd) (S : Ns) (m l : Nat) : Bool := (List.range N.n).any (drO A N S m l) || (List.range N.q).any (shK A N m l)
theorem anyT {n o : Nat} {f : Nat → Bool} (ho : o < n) (h : f o = true) : (List.range n).any f = true := List.any_eq_true.mpr ⟨o, List.mem_range.mpr ho, h⟩
theorem anyF {n : Nat} {f : Nat → Bool} (h : ∀ o, o < n → f o = false) : (List.range n).any f = false := by
  cases e : (List.range n).any f
  · rfl
  · obtain ⟨o, ho, y⟩ := List.any_eq_true.mp e
    rw [h o (List.mem_range.mp ho)] at y
    cases y
def wfN2 (N : Nd) (S : Ns) : Prop := ∀ l, l < N.n → S.si l < 120 ∧ S.ou l ≤ 120 ∧ S.oi l ≤ 240
/-- the model's night between two minutes -/
def mNS (N : Nd) (S : Ns) (h : ah_T) : Prop := wfN2 N S ∧ ∀ l, l < N.n → ah_i h 105 l = bI (S.bu l) ∧ ah_i h 103 l = nI (S.si l) ∧ ah_i h 104 l = nO (S.ou l) ∧ ah_i h 102 l = nI (S.oi l)
theorem mNS_fr {N : Nd} {S : Ns} {h h' : ah_T} (e : ∀ a, (a = 102 ∨ a = 103 ∨ a = 104 ∨ a = 105) → ∀ j, ah_i h' a j = ah_i h a j) (m : mNS N S h) : mNS N S h' := ⟨m.1, fun l hl => by rw [e 105 (by omega), e 103 (by omega), e 104 (by omega), e 102 (by omega)]; exact m.2 l hl⟩
section MD
variable {A : Nat → Nat} {N : Nd} {S : Ns} {h : ah_T}
/-- all a minute of the model needs -/
def mAl (A : Nat → Nat) (N : Nd) (S : Ns) (h : ah_T) : Prop := mLw A h ∧ mKn A h ∧ mND A N h ∧ mNS N S h
theorem mAl_k {h1 : ah_T} (f : knF h h1) (k : mKw A h1) (a : mAl A N S h) : mAl A N S h1 := by
  have e : ∀ a, a ≠ 82 → a ≠ 93 → a ≠ 95 → a ≠ 96 → a ≠ 97 → ∀ j, ah_i h1 a j = ah_i h a j := fun a n1 n2 n3 n4 n5 => (f.2.2.1 a n1 n2 n3 n4 n5).1
  exact ⟨mLw_fr (e 84 (by decide) (by decide) (by decide) (by decide) (by decide)) a.1, ⟨Int.le_of_eq (congrArg Int32.toInt k.1), fun _ => k.2⟩, mND_fr (fun b hb => e b (by omega) (by omega) (by omega) (by omega) (by omega)) (fun j hj => f.2.2.2 j (by omega) (by omega) (by omega) (by omega) (by omega)) a.2.2.1, mNS_fr (fun b hb => e b (by omega) (by omega) (by omega) (by omega) (by omega)) a.2.2.2⟩
theorem m_shunsLamp {Q : Option Value → ah_T → Prop} (hs : Sh h) (a : mAl A N S h) {l o m : Nat} {x1 x2 x3 : Int32} (e1 : x1 = nI l) (e2 : x2 = nI o) (e3 : x3 = nI m) (hl : l < N.n) (ho : o < N.n) (hm : m < 120)
    (hq : ∀ h', knF h h' → mAl A N S h' → Q (some (.int (bI (shL A N S m l o)))) h') : Mt mX12_shunsLamp [.ref 82, .int x1, .int x2, .int x3] h Q := by
  subst e1 e2 e3
  have a' := a
  obtain ⟨a1, a2, ⟨d1, d2, d3, d4, d5, d6, d7⟩, s1, s2⟩ := a'
  obtain ⟨w1, w2, w3, w4⟩ := d1
  have n100 : ah_n h 100 = 10 := sh_n hs 100 10 (by decide) (by decide) rfl
  have n101 : ah_n h 101 = 10 := sh_n hs 101 10 (by decide) (by decide) rfl
  have n103 : ah_n h 103 = 10 := sh_n hs 103 10 (by decide) (by decide) rfl
  have n99 : ah_n h 99 = 144 := sh_n hs 99 144 (by decide) (by decide) rfl
  obtain ⟨u1, u2⟩ := w2 l hl
  obtain ⟨v1, v2⟩ := w2 o ho
  obtain ⟨p1, p2, p3⟩ := sgN_d (d7 _ _ u1 v1)
  have c1 : (12 : Int32) * nI (N.co l) + nI (N.co o) = nI (12 * N.co l + N.co o) := by rw [n_12, nI_mul, nI_add]
  have vl : vp_in (nI l) 10 := (vp_nI (by omega)).mpr (by omega)
  have vo : vp_in (nI o) 10 := (vp_nI (by omega)).mpr (by omega)
  refine T_X12_shunsLamp hs _ _ _ ?_
  rw [nI_clamp (show l < 2 ^ 31 by omega), nI_clamp (show o < 2 ^ 31 by omega), (d5 l hl).1, (d5 l hl).2, (d5 o ho).1, (d5 o ho).2, (s2 l hl).2.1, (s2 o ho).2.1, n100, n101, n103, n99, c1, nI_clamp (show 12 * N.co l + N.co o < 2 ^ 31 by omega), p1]
  refine ⟨vl, vo, vl, vo, (vp_nI (by omega)).mpr (by omega), vl, vo, ?_⟩
  have b1 := (s1 l hl).1
  have b2 := (s1 o ho).1
  unfold shL at hq
  by_cases z : S.si o < S.si l
  · (first | refine ⟨fun _ => ?_, fun n_ => absurd (show ¬ nI (S.si l) ≤ nI (S.si o) from nI_ge (by omega) (by omega)) n_⟩ | refine ⟨fun n_ => absurd (show ¬ nI (S.si l) ≤ nI (S.si o) from nI_ge (by omega) (by omega)) n_, fun _ => ?_⟩ | refine ⟨fun y_ => absurd y_ (show ¬ nI (S.si l) ≤ nI (S.si o) from nI_ge (by omega) (by omega)), fun _ => ?_⟩ | refine ⟨fun _ => ?_, fun y_ => absurd y_ (show ¬ nI (S.si l) ≤ nI (S.si o) from nI_ge (by omega) (by omega))⟩)
    rw [if_pos z] at hq
    exact mt_shuns (la := 1) hs a1 a2 (by omega) u2 v2 p2 (by decide) hm rfl rfl rfl rfl rfl rfl (fun h1 f k => ⟨_, rfl, f.1, bI_b _, hq h1 f (mAl_k f k a)⟩)
  · (first | refine ⟨fun _ => ?_, fun n_ => absurd (show nI (S.si l) ≤ nI (S.si o) from nI_le (by omega) (by omega)) n_⟩ | refine ⟨fun n_ => absurd (show nI (S.si l) ≤ nI (S.si o) from nI_le (by omega) (by omega)) n_, fun _ => ?_⟩ | refine ⟨fun y_ => absurd y_ (show nI (S.si l) ≤ nI (S.si o) from nI_le (by omega) (by omega)), fun _ => ?_⟩ | refine ⟨fun _ => ?_, fun y_ => absurd y_ (show nI (S.si l) ≤ nI (S.si o) from nI_le (by omega) (by omega))⟩)
    rw [if_neg z] at hq
    exact mt_shuns (la := 0) hs a1 a2 (by omega) u2 v2 p2 (by decide) hm rfl rfl rfl rfl rfl rfl (fun h1 f k => ⟨_, rfl, f.1, bI_b _, hq h1 f (mAl_k f k a)⟩)
theorem m_isDriven {Q : Option Value → ah_T → Prop} (hs : Sh h) (a : mAl A N S h) {l m : Nat} {x1 x2 : Int32} (e1 : x1 = nI l) (e2 : x2 = nI m) (hl : l < N.n) (hm : m < 120)
    (hq : ∀ h', knF h h' → mAl A N S h' → Q (some (.int (bI (drB A N S m l)))) h') : Mt mX12_isDriven [.ref 82, .int x1, .int x2] h Q := by
  subst e1 e2
  have w1 := a.2.2.1.1.1
  have w3 := a.2.2.1.1.2.2.1
  have yes : ∀ (g : ah_T), knF h g → mAl A N S g → drB A N S m l = true → Q (some (.int 1)) g := fun g f k e => by
    have := hq g f k
    rw [e] at this
    exact this
  have l104 : ∀ (q k : Nat) (g : ah_T), k + q = N.q → knF h g → mAl A N S g → (List.range N.n).any (drO A N S m l) = false → (∀ k', k' < k → shK A N m l k' = false) → Wp mX12_isDriven Q 0 0 104 [some (.ref 82), some (.int (nI l)), some (.int (nI m)), some (.int (nI k)), none] [] g := by
    intro q
    induction q with
    | zero =>
      intro k g hk fg ag n1 n2
      refine T_X12_isDriven_104 fg.1 _ _ _ ?_
      rw [ag.2.2.1.2.2.1]
      (first | refine ⟨fun _ => ?_, fun n_ => absurd (show nI N.q ≤ nI k from nI_le (by omega) (by omega)) n_⟩ | refine ⟨fun n_ => absurd (show nI N.q ≤ nI k from nI_le (by omega) (by omega)) n_, fun _ => ?_⟩ | refine ⟨fun y_ => absurd y_ (show nI N.q ≤ nI k from nI_le (by omega) (by omega)), fun _ => ?_⟩ | refine ⟨fun _ => ?_, fun y_ => absurd y_ (show nI N.q ≤ nI k from nI_le (by omega) (by omega))⟩)
      have e9 : k = N.q := by omega
      subst e9
      have := hq g fg ag
      unfold drB at this
      rw [n1, anyF n2] at this
      exact this
    | succ q ih =>
      intro k g hk fg ag n1 n2
      have hk2 : k < N.q := by omega
      obtain ⟨a1, a2, ⟨d1, d2, d3, d4, d5, d6, d7⟩, s1, s2⟩ := ag
      have ag : mAl A N S g := ⟨a1, a2, ⟨d1, d2, d3, d4, d5, d6, d7⟩, s1, s2⟩
      obtain ⟨u1, u2⟩ := d1.2.1 l hl
      obtain ⟨v1, v2⟩ := d1.2.2.2 k hk2
      obtain ⟨t1, t2⟩ := d6 k hk2
      have c1 : (120 : Int32) * nI k + nI m = nI (120 * k + m) := by rw [n_120, nI_mul, nI_add]
      have c2 : nI k + 1 = nI (k + 1) := nI_add _ 1
      refine T_X12_isDriven_104 fg.1 _ _ _ ?_
      rw [d3]
      (first | refine ⟨fun _ => ?_, fun n_ => absurd (show ¬ nI N.q ≤ nI k from nI_ge (by omega) (by omega)) n_⟩ | refine ⟨fun n_ => absurd (show ¬ nI N.q ≤ nI k from nI_ge (by omega) (by omega)) n_, fun _ => ?_⟩ | refine ⟨fun y_ => absurd y_ (show ¬ nI N.q ≤ nI k from nI_ge (by omega) (by omega)), fun _ => ?_⟩ | refine ⟨fun _ => ?_, fun y_ => absurd y_ (show ¬ nI N.q ≤ nI k from nI_ge (by omega) (by omega))⟩)
      rw [c1, c2, nI_clamp (show 120 * k + m < 2 ^ 31 by omega), nI_clamp (show l < 2 ^ 31 by omega), nI_clamp (show k < 2 ^ 31 by omega), t2 m hm, t1, (d5 l hl).1, (d5 l hl).2, sh_n fg.1 107 360 (by decide) (by decide) rfl, sh_n fg.1 101 10 (by decide) (by decide) rfl, sh_n fg.1 108 3 (by decide) (by decide) rfl, sh_n fg.1 100 10 (by decide) (by decide) rfl, sh_n fg.1 99 144 (by decide) (by decide) rfl]
      refine ⟨(vp_nI (by omega)).mpr (by omega), ?_⟩
      have nx : ∀ g', knF h g' → mAl A N S g' → shK A N m l k = false → Wp mX12_isDriven Q 0 0 104 [some (.ref 82), some (.int (nI l)), some (.int (nI m)), some (.int (nI (k + 1))), none] [] g' := by
        intro g' y1 y2 y3
        refine ih (k + 1) g' (by omega) y1 y2 n1 (fun k' hk' => ?_)
        by_cases z : k' = k
        · subst z; exact y3
        · exact n2 k' (by omega)
      by_cases z : N.pl k m = 0
      · rw [z]
        (first | refine ⟨fun _ => ?_, fun n_ => absurd (show nO 0 = -1 by rfl) n_⟩ | refine ⟨fun n_ => absurd (show nO 0 = -1 by rfl) n_, fun _ => ?_⟩ | refine ⟨fun y_ => absurd y_ (show nO 0 = -1 by rfl), fun _ => ?_⟩ | refine ⟨fun _ => ?_, fun y_ => absurd y_ (show nO 0 = -1 by rfl)⟩)
        exact nx g fg ag (by unfold shK; rw [z]; rfl)
      · obtain ⟨c, ec⟩ : ∃ c, N.pl k m = c + 1 := ⟨N.pl k m - 1, by omega⟩
        have hc : c < 12 := by have := v2 m hm; omega
        rw [ec, nO_s]
        (first | refine ⟨fun _ => ?_, fun n_ => absurd (nI_m1 (show c < 2 ^ 31 by omega)) n_⟩ | refine ⟨fun n_ => absurd (nI_m1 (show c < 2 ^ 31 by omega)) n_, fun _ => ?_⟩ | refine ⟨fun y_ => absurd y_ (nI_m1 (show c < 2 ^ 31 by omega)), fun _ => ?_⟩ | refine ⟨fun _ => ?_, fun y_ => absurd y_ (nI_m1 (show c < 2 ^ 31 by omega))⟩)
        obtain ⟨p1, p2, p3⟩ := sgN_d (d7 _ _ u1 hc)
        have c3 : (12 : Int32) * nI (N.co l) + nI c = nI (12 * N.co l + c) := by rw [n_12, nI_mul, nI_add]
        rw [c3, nI_clamp (show 12 * N.co l + c < 2 ^ 31 by omega), p1]
        refine ⟨(vp_nI (by omega)).mpr (by omega), (vp_nI (by omega)).mpr (by omega), (vp_nI (by omega)).mpr (by omega), (vp_nI (by omega)).mpr (by omega), ?_⟩
        have ek : shK A N m l k = shS9 A l (N.ki l) (N.lk k) (sgN A (N.co l) c) 1 m := by
          unfold shK
          rw [ec, decide_eq_true (Nat.succ_ne_zero c), Bool.true_and]
          rfl
        refine mt_shuns (la := 1) fg.1 a1 a2 (by omega) u2 v1 p2 (by decide) hm rfl rfl rfl rfl rfl rfl (fun h1 f k9 => ⟨_, rfl, f.1, ?_⟩)
        rw [← ek, bI_0]
        refine ⟨fun y => nx h1 (knF_t fg f) (mAl_k f k9 ag) y, fun y => yes h1 (knF_t fg f) (mAl_k f k9 ag) ?_⟩
        unfold drB
        rw [anyT hk2 (by cases e : shK A N m l k; exact absurd e y; rfl), Bool.or_true]
  have l2 : ∀ (q o : Nat) (g : ah_T), o + q = N.n → knF h g → mAl A N S g → (∀ o', o' < o → drO A N S m l o' = false) → Wp mX12_isDriven Q 0 0 2 [some (.ref 82), some (.int (nI l)), some (.int (nI m)), some (.int (nI o)), none] [] g := by
    intro q
    induction q with
    | zero =>
      intro o g ho fg ag n1
      refine T_X12_isDriven_2 fg.1 _ _ _ ?_
      rw [ag.2.2.1.2.1]
      (first | refine ⟨fun _ => ?_, fun n_ => absurd (show nI N.n ≤ nI o from nI_le (by omega) (by omega)) n_⟩ | refine ⟨fun n_ => absurd (show nI N.n ≤ nI o from nI_le (by omega) (by omega)) n_, fun _ => ?_⟩ | refine ⟨fun y_ => absurd y_ (show nI N.n ≤ nI o from nI_le (by omega) (by omega)), fun _ => ?_⟩ | refine ⟨fun _ => ?_, fun y_ => absurd y_ (show nI N.n ≤ nI o from nI_le (by omega) (by omega))⟩)
      have e9 : o = N.n := by omega
      subst e9
      exact l104 N.q 0 g (by omega) fg ag (anyF n1) (fun k' hk' => absurd hk' (by omega))
    | succ q ih =>
      intro o g ho fg ag n1
      have ho2 : o < N.n := by omega
      have c2 : nI o + 1 = nI (o + 1) := nI_add _ 1
      have n103 : ∀ {g : ah_T}, Sh g → ah_n g 103 = 10 := fun hs => sh_n hs 103 10 (by decide) (by decide) rfl
      have nx : ∀ g', knF h g' → mAl A N S g' → drO A N S m l o = false → Wp mX12_isDriven Q 0 0 2 [some (.ref 82), some (.int (nI l)), some (.int (nI m)), some (.int (nI (o + 1))), none] [] g' := by
        intro g' y1 y2 y3
        refine ih (o + 1) g' (by omega) y1 y2 (fun o' ho' => ?_)
        by_cases z : o' = o
        · subst z; exact y3
        · exact n1 o' (by omega)
      have ys : ∀ g', knF h g' → mAl A N S g' → drO A N S m l o = true → Q (some (.int 1)) g' := by
        intro g' y1 y2 y3
        refine yes g' y1 y2 ?_
        unfold drB
        rw [anyT ho2 y3, Bool.true_or]
      refine T_X12_isDriven_2 fg.1 _ _ _ ?_
      rw [ag.2.2.1.2.1]
      (first | refine ⟨fun _ => ?_, fun n_ => absurd (show ¬ nI N.n ≤ nI o from nI_ge (by omega) (by omega)) n_⟩ | refine ⟨fun n_ => absurd (show ¬ nI N.n ≤ nI o from nI_ge (by omega) (by omega)) n_, fun _ => ?_⟩ | refine ⟨fun y_ => absurd y_ (show ¬ nI N.n ≤ nI o from nI_ge (by omega) (by omega)), fun _ => ?_⟩ | refine ⟨fun _ => ?_, fun y_ => absurd y_ (show ¬ nI N.n ≤ nI o from nI_ge (by omega) (by omega))⟩)
      rw [c2, nI_eq (a := o) (b := l) (by omega) (by omega), nI_clamp (show o < 2 ^ 31 by omega), nI_clamp (show l < 2 ^ 31 by omega), (ag.2.2.2.2 o ho2).1, bI_0, sh_n fg.1 105 10 (by decide) (by decide) rfl]
      refine ⟨fun z => nx g fg ag (by unfold drO; rw [decide_eq_false (fun y => y z), Bool.false_and]), fun z => ⟨(vp_nI (by omega)).mpr (by omega), fun y => nx g fg ag (by unfold drO; rw [y, Bool.false_and, Bool.and_false]), fun y => ?_⟩⟩
      have yb : S.bu o = true := by cases e : S.bu o; exact absurd e y; rfl
      have eo : drO A N S m l o = (shL A N S m l o && !(ltr S o l && shL A N S m o l)) := by
        unfold drO
        rw [decide_eq_true z, yb, Bool.true_and, Bool.true_and]
      rw [eo] at nx ys
      refine m_shunsLamp fg.1 ag rfl rfl rfl hl ho2 hm (fun g1 f1 a1 => ⟨_, rfl, f1.1, ?_⟩)
      have fg1 := knF_t fg f1
      rw [bI_0]
      cases e1 : shL A N S m l o with
      | false =>
        rw [e1] at nx
        (first | refine ⟨fun _ => ?_, fun n_ => absurd (show false = false by rfl) n_⟩ | refine ⟨fun n_ => absurd (show false = false by rfl) n_, fun _ => ?_⟩ | refine ⟨fun y_ => absurd y_ (show false = false by rfl), fun _ => ?_⟩ | refine ⟨fun _ => ?_, fun y_ => absurd y_ (show false = false by rfl)⟩)
        exact nx g1 fg1 a1 (Bool.false_and _)
      | true =>
        rw [e1, Bool.true_and] at nx ys
        (first | refine ⟨fun _ => ?_, fun n_ => absurd (show ¬ true = false by decide) n_⟩ | refine ⟨fun n_ => absurd (show ¬ true = false by decide) n_, fun _ => ?_⟩ | refine ⟨fun y_ => absurd y_ (show ¬ true = false by decide), fun _ => ?_⟩ | refine ⟨fun _ => ?_, fun y_ => absurd y_ (show ¬ true = false by decide)⟩)
        obtain ⟨b1, _, _⟩ := a1.2.2.2.1 l hl
        obtain ⟨b2, _, _⟩ := a1.2.2.2.1 o ho2
        have lt_ : Mt mX12_shunsLamp [.ref 82, .int (nI o), .int (nI l), .int (nI m)] g1 (ab_qi fun v14 h12 => Sh h12 ∧ ((¬ v14 = 0 → Wp mX12_isDriven Q 0 0 2 [some (.ref 82), some (.int (nI l)), some (.int (nI m)), some (.int (nI (o + 1))), none] [] h12) ∧ (v14 = 0 → Q (some (.int 1)) h12))) ∨ ltr S o l = false := by
          cases e2 : ltr S o l with
          | false => exact .inr rfl
          | true =>
            rw [e2, Bool.true_and] at nx ys
            refine .inl (m_shunsLamp f1.1 a1 rfl rfl rfl ho2 hl hm (fun g2 f2 a2 => ⟨_, rfl, f2.1, ?_⟩))
            rw [bI_0]
            refine ⟨fun w => nx g2 (knF_t fg1 f2) a2 ?_, fun w => ys g2 (knF_t fg1 f2) a2 ?_⟩
            · cases e3 : shL A N S m o l; exact absurd e3 w; rfl
            · rw [w]; rfl
        have no : ltr S o l = false → Q (some (.int 1)) g1 := fun e2 => ys g1 fg1 a1 (by rw [e2]; rfl)
        have el : ltr S o l = false ↔ ¬ (S.si l < S.si o ∨ (S.si o = S.si l ∧ l < o)) := by unfold ltr; exact decide_eq_false_iff_not
        rw [(a1.2.2.2.2 o ho2).2.1, (a1.2.2.2.2 l hl).2.1, n103 f1.1, nI_eq (by omega) (by omega)]
        refine ⟨(vp_nI (by omega)).mpr (by omega), (vp_nI (by omega)).mpr (by omega), ?_⟩
        by_cases z1 : S.si l < S.si o
        · (first | refine ⟨fun _ => ?_, fun n_ => absurd (show nI (S.si l) < nI (S.si o) from nI_lt (by omega) (by omega)) n_⟩ | refine ⟨fun n_ => absurd (show nI (S.si l) < nI (S.si o) from nI_lt (by omega) (by omega)) n_, fun _ => ?_⟩ | refine ⟨fun y_ => absurd y_ (show nI (S.si l) < nI (S.si o) from nI_lt (by omega) (by omega)), fun _ => ?_⟩ | refine ⟨fun _ => ?_, fun y_ => absurd y_ (show nI (S.si l) < nI (S.si o) from nI_lt (by omega) (by omega))⟩)
          rcases lt_ with y | y
          · exact y
          · exact absurd (.inl z1) (el.mp y)
        · (first | refine ⟨fun _ => ?_, fun n_ => absurd (show ¬ nI (S.si l) < nI (S.si o) by rw [nI_ltI (by omega) (by omega)]; exact z1) n_⟩ | refine ⟨fun n_ => absurd (show ¬ nI (S.si l) < nI (S.si o) by rw [nI_ltI (by omega) (by omega)]; exact z1) n_, fun _ => ?_⟩ | refine ⟨fun y_ => absurd y_ (show ¬ nI (S.si l) < nI (S.si o) by rw [nI_ltI (by omega) (by omega)]; exact z1), fun _ => ?_⟩ | refine ⟨fun _ => ?_, fun y_ => absurd y_ (show ¬ nI (S.si l) < nI (S.si o) by rw [nI_ltI (by omega) (by omega)]; exact z1)⟩)
          refine ⟨(vp_nI (by omega)).mpr (by omega), (vp_nI (by omega)).mpr (by omega), fun w => no (el.mpr (fun u => u.elim z1 (fun u => w u.1))), fun w => ?_⟩
          by_cases z2 : o ≤ l
          · (first | refine ⟨fun _ => ?_, fun n_ => absurd (show nI o ≤ nI l from nI_le (by omega) (by omega)) n_⟩ | refine ⟨fun n_ => absurd (show nI o ≤ nI l from nI_le (by omega) (by omega)) n_, fun _ => ?_⟩ | refine ⟨fun y_ => absurd y_ (show nI o ≤ nI l from nI_le (by omega) (by omega)), fun _ => ?_⟩ | refine ⟨fun _ => ?_, fun y_ => absurd y_ (show nI o ≤ nI l from nI_le (by omega) (by omega))⟩)
            exact no (el.mpr (fun u => u.elim z1 (fun u => by omega)))
          · (first | refine ⟨fun _ => ?_, fun n_ => absurd (show ¬ nI o ≤ nI l from nI_ge (by omega) (by omega)) n_⟩ | refine ⟨fun n_ => absurd (show ¬ nI o ≤ nI l from nI_ge (by omega) (by omega)) n_, fun _ => ?_⟩ | refine ⟨fun y_ => absurd y_ (show ¬ nI o ≤ nI l from nI_ge (by omega) (by omega)), fun _ => ?_⟩ | refine ⟨fun _ => ?_, fun y_ => absurd y_ (show ¬ nI o ≤ nI l from nI_ge (by omega) (by omega))⟩)
            rcases lt_ with y | y
            · exact y
            · exact absurd (.inr ⟨w, by omega⟩) (el.mp y)
  refine T_X12_isDriven hs _ _ (l2 N.n 0 h (by omega) (knF_r hs) a (fun o' ho' => absurd ho' (by omega)))
end MD
