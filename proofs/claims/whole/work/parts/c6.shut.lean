/-! ===== shutters: a night in which nobody goes, and what would drive one out ===== -/
/-- the town with more shutters -/
def aS (A : Nat → Nat) (S : Nat) : Nat → Nat := fun j => if j < 60 ∧ j % 3 = 2 ∧ S.testBit (j / 3) = true then 1 else A j
/-- while nobody goes -/
def qSt (A : Nat → Nat) (N : Nd) : Nat → Ns
  | 0 => nst0 A N
  | m + 1 => fiS A N (wkM A N (qSt A N m) m) (fun _ => false) m N.n
abbrev qW (A : Nat → Nat) (N : Nd) (m : Nat) : Ns := wkM A N (qSt A N m) m
abbrev qla (S : Ns) (l o : Nat) : Nat := if S.si o < S.si l then 1 else 0
/-- by a sight, one is driven out by another lamp (not spared); shuns another lamp; a lantern -/
def cfG (A : Nat → Nat) (N : Nd) (m l o v : Nat) : Prop := o ≠ l ∧ (qW A N m).bu o = true ∧ shS9 A l (N.ki l) (N.ki o) v (qla (qW A N m) l o) m = true ∧ ¬ (ltr (qW A N m) o l = true ∧ shS9 A o (N.ki o) (N.ki l) v (qla (qW A N m) o l) m = true)
def cfO (A : Nat → Nat) (N : Nd) (m l o v : Nat) : Prop := o ≠ l ∧ (qW A N m).bu o = true ∧ shS9 A l (N.ki l) (N.ki o) v (qla (qW A N m) l o) m = true
def cfK (A : Nat → Nat) (N : Nd) (m l k v : Nat) : Prop := N.pl k m ≠ 0 ∧ shS9 A l (N.ki l) (N.lk k) v 1 m = true
/-- a quarrel of two corners by a sight -/
def cfl (A : Nat → Nat) (N : Nd) (a b v : Nat) : Prop := ∃ m l, m < 120 ∧ l < N.n ∧ (qW A N m).bu l = true ∧ N.co l = a ∧ ((∃ o, o < N.n ∧ N.co o = b ∧ cfO A N m l o v) ∨ ∃ k, k < N.q ∧ N.pl k m = b + 1 ∧ cfK A N m l k v)
/-- sights that may be, with more shutters -/
def poS (A : Nat → Nat) (a b v : Nat) : Prop := (v = sgN A a b) ∨ (a ≠ b ∧ sgN A a b ≠ 0 ∧ (v = 0 ∨ (sgN A a b ≤ v ∧ v ≤ 12)))
/-- all are at peace -/
def pcS (A : Nat → Nat) (S : Nat) : Prop := ∀ m, m < 120 → ∀ l, l < A 246 → outM (aS A S) (nd0 A) m l = false
section SH
variable {A B : Nat → Nat} {N : Nd} {S m l o k v a b n : Nat}
theorem aS_ge (e : 60 ≤ m) : aS A S m = A m := by
  unfold aS
  rw [if_neg (fun y => by omega)]
theorem aS_3 (hw : m < 20) : aS A S (3 * m) = A (3 * m) ∧ aS A S (3 * m + 1) = A (3 * m + 1) ∧ (aS A S (3 * m + 2) = 1 ↔ A (3 * m + 2) = 1 ∨ S.testBit m = true) := by
  unfold aS
  refine ⟨by rw [if_neg (fun y => by omega)], by rw [if_neg (fun y => by omega)], ?_⟩
  rw [show (3 * m + 2) / 3 = m by omega]
  by_cases z : S.testBit m = true
  · rw [if_pos ⟨by omega, by omega, z⟩]
    exact ⟨fun _ => .inr z, fun _ => rfl⟩
  · rw [if_neg (fun y => z y.2.2)]
    exact ⟨.inl, fun y => y.resolve_right z⟩
theorem law_ge (e : ∀ j, 60 ≤ j → B j = A j) : lawL B = lawL A := by
  unfold lawL
  rw [e 252 (by omega), show (fun k => B (260 + 400 * (A 252 - 1) + k)) = fun k => A (260 + 400 * (A 252 - 1) + k) from funext fun k => e _ (by omega), show (fun k => B (3060 + 400 * (A 252 - 1) + k)) = fun k => A (3060 + 400 * (A 252 - 1) + k) from funext fun k => e _ (by omega), e (253 + (A 252 - 1)) (by omega)]
theorem sh9_ge (e : ∀ j, 60 ≤ j → B j = A j) : shS9 B = shS9 A := by
  funext l k o ne la mi
  unfold shS9
  rw [law_ge e, e 242 (by omega), e 244 (by omega)]
theorem rch_ge (e : ∀ j, 60 ≤ j → B j = A j) : rchA B = rchA A := by
  funext l k mi
  unfold rchA
  rw [law_ge e, e 242 (by omega), e 244 (by omega)]
theorem drk_ge (e : ∀ j, 60 ≤ j → B j = A j) : drkA B = drkA A := by
  funext l k mi
  unfold drkA
  rw [law_ge e, e 242 (by omega), e 244 (by omega)]
theorem npr_ge (e : ∀ j, 60 ≤ j → B j = A j) (X : Ns) : ∀ k, npr B X m k = npr A X m k
  | 0 => rfl
  | k + 1 => by
    show (if B (91 + 3 * k) = m then swS (npr B X m k) (B (90 + 3 * k)) (B (92 + 3 * k)) m else npr B X m k) = (if A (91 + 3 * k) = m then swS (npr A X m k) (A (90 + 3 * k)) (A (92 + 3 * k)) m else npr A X m k)
    rw [npr_ge e X k, e (91 + 3 * k) (by omega), e (90 + 3 * k) (by omega), e (92 + 3 * k) (by omega)]
theorem wkM_ge (e : ∀ j, 60 ≤ j → B j = A j) (X : Ns) : wkM B N X m = wkM A N X m := by
  unfold wkM
  rw [e 247 (by omega), npr_ge e]
  unfold wkS wkB
  rw [e 243 (by omega)]
theorem fiS_ge (e : ∀ j, 60 ≤ j → B j = A j) (X : Ns) (g : Nat → Bool) : fiS B N X g m n = fiS A N X g m n := by
  unfold fiS
  rw [drk_ge e]
theorem nd_ge (e : ∀ j, 60 ≤ j → B j = A j) : nd0 B = nd0 A := by
  unfold nd0
  have e1 : plA B = plA A := by
    funext k m
    unfold plA
    rw [e (163 + 19 * k) (by omega), e (164 + 19 * k) (by omega), e (165 + 19 * k + min (m - A (163 + 19 * k)) (A (164 + 19 * k) - 1)) (by omega)]
  rw [e 246 (by omega), e 248 (by omega), e1, show (fun l => B (60 + 3 * l)) = fun l => A (60 + 3 * l) from funext fun l => e _ (by omega), show (fun l => B (61 + 3 * l)) = fun l => A (61 + 3 * l) from funext fun l => e _ (by omega), show (fun l => B (162 + 19 * l)) = fun l => A (162 + 19 * l) from funext fun l => e _ (by omega)]
theorem nst_ge (e : ∀ j, 60 ≤ j → B j = A j) : nst0 B N = nst0 A N := by
  unfold nst0
  rw [e 246 (by omega), show (fun l => if l < A 246 then B (62 + 3 * l) else 240) = fun l => if l < A 246 then A (62 + 3 * l) else 240 from funext fun l => by rw [e (62 + 3 * l) (by omega)]]
theorem fiS_no (X : Ns) {g : Nat → Bool} (h : ∀ l, l < N.n → g l = false) : fiS A N X g m N.n = fiS A N X (fun _ => false) m N.n := by
  unfold fiS
  refine congr (congrArg Prod.mk (funext fun x => ?_)) (congr (congrArg Prod.mk rfl) (congr (congrArg Prod.mk (funext fun x => ?_)) (funext fun x => ?_)))
  · by_cases z : x < N.n
    · rw [if_pos z, if_pos z, h x z]
    · rw [if_neg z, if_neg z]
  · by_cases z : x < N.n
    · rw [h x z]
    · rw [if_neg (fun y => z y.1), if_neg (fun y => z y.1)]
  · by_cases z : x < N.n
    · rw [h x z]
    · rw [if_neg (fun y => z y.1), if_neg (fun y => z y.1)]
theorem nSt_q (e : ∀ j, 60 ≤ j → B j = A j) : ∀ m, (∀ m', m' < m → ∀ l, l < N.n → outM B N m' l = false) → nSt B N m = qSt A N m
  | 0, _ => nst_ge e
  | m + 1, h => by
    have ih := nSt_q e m (fun m' hm => h m' (by omega))
    show miM B N (nSt B N m) m = fiS A N (wkM A N (qSt A N m) m) (fun _ => false) m N.n
    unfold miM
    have hg : ∀ l, l < N.n → goM B N (nSt B N m) m l = false := h m (by omega)
    rw [fiS_no _ hg, fiS_ge e, wkM_ge e, ih]
theorem go_q (e : ∀ j, 60 ≤ j → B j = A j) (sy : ∀ a b, sgN B a b = sgN B b a) : goM B N (qSt A N m) m l = true ↔ (qW A N m).bu l = true ∧ ((∃ o, o < N.n ∧ cfG A N m l o (sgN B (N.co l) (N.co o))) ∨ ∃ k, k < N.q ∧ cfK A N m l k (sgN B (N.co l) (N.pl k m - 1))) := by
  unfold goM
  rw [wkM_ge e, Bool.and_eq_true, drB_t]
  refine and_congr Iff.rfl (or_congr (exists_congr fun o => and_congr Iff.rfl ?_) (exists_congr fun k => and_congr Iff.rfl ?_))
  · rw [drO_t]
    unfold cfG shL
    rw [sh9_ge e, sy (N.co o) (N.co l)]
  · unfold shK cfK
    rw [sh9_ge e, Bool.and_eq_true, decide_eq_true_eq]
theorem out_q (e : ∀ j, 60 ≤ j → B j = A j) (sy : ∀ a b, sgN B a b = sgN B b a) (w : wfD N) : (∀ m, m < 120 → ∀ l, l < N.n → outM B N m l = false) ↔ ∀ a b, a < 12 → b < 12 → ¬ cfl A N a b (sgN B a b) := by
  constructor
  · rintro h a b ha hb ⟨m, l, hm, hl, c1, rfl, c2⟩
    have stay : ∀ x, x < N.n → ¬ ((qW A N m).bu x = true ∧ ((∃ o, o < N.n ∧ cfG A N m x o (sgN B (N.co x) (N.co o))) ∨ ∃ k, k < N.q ∧ cfK A N m x k (sgN B (N.co x) (N.pl k m - 1)))) := by
      intro x hx w
      have y := h m hm x hx
      unfold outM at y
      rw [nSt_q e m (fun m' hm' => h m' (by omega)), (go_q e sy).mpr w] at y
      exact absurd y (by decide)
    rcases c2 with ⟨o, ho, rfl, ne, bo, s1⟩ | ⟨k, hk, c4, c3⟩
    · by_cases z : ltr (qW A N m) o l = true ∧ shS9 A o (N.ki o) (N.ki l) (sgN B (N.co l) (N.co o)) (qla (qW A N m) o l) m = true
      · refine stay o ho ⟨bo, .inl ⟨l, hl, Ne.symm ne, c1, ?_, fun w => ?_⟩⟩
        · rw [sy (N.co o) (N.co l)]
          exact z.2
        · have z1 := z.1
          have w1 := w.1
          unfold ltr at z1 w1
          rw [decide_eq_true_eq] at z1 w1
          omega
      · exact stay l hl ⟨c1, .inl ⟨o, ho, ne, bo, s1, z⟩⟩
    · refine stay l hl ⟨c1, .inr ⟨k, hk, ?_⟩⟩
      rw [c4, Nat.add_sub_cancel]
      exact c3
  · intro h
    have key : ∀ m, m ≤ 120 → ∀ m', m' < m → ∀ l, l < N.n → outM B N m' l = false := by
      intro m
      induction m with
      | zero => intro _ m' h1; exact absurd h1 (Nat.not_lt_zero _)
      | succ m ih =>
        intro hm m' hm' l hl
        have i2 := ih (by omega)
        by_cases z : m' = m
        · subst z
          unfold outM
          rw [nSt_q e m' i2]
          cases y : goM B N (qSt A N m') m' l
          · rfl
          · rw [go_q e sy] at y
            obtain ⟨y1, y2⟩ := y
            obtain ⟨w1, w2, w3, w4⟩ := w
            exfalso
            rcases y2 with ⟨o, ho, c⟩ | ⟨k, hk, c⟩
            · exact h _ _ (w2 l hl).1 (w2 o ho).1 ⟨m', l, by omega, hl, y1, rfl, .inl ⟨o, ho, rfl, c.1, c.2.1, c.2.2.1⟩⟩
            · have p1 := c.1
              have p2 := (w4 k hk).2 m' (by omega)
              exact h _ (N.pl k m' - 1) (w2 l hl).1 (by omega) ⟨m', l, by omega, hl, y1, rfl, .inr ⟨k, hk, by omega, c⟩⟩
        · exact i2 m' (by omega) l hl
    exact fun m hm => key 120 (Nat.le_refl _) m hm
theorem Ewy_sym {s : Nat → Prop} {x y : Nat} (w : Ew A s x y) : Ew A s y x := by
  obtain ⟨v, h1, h2, h3⟩ := w
  exact ⟨v, h1, h2, h3.symm⟩
theorem wk_rw {s : Nat → Prop} : ∀ {n b : Nat}, wk (Ew A s) n a b → wk (Ew A s) n b a
  | 0, b, w => by
    have : a = b := w
    subst this
    exact w
  | n + 1, b, ⟨c, w1, w2⟩ => by
    have := wk_cat (wk_1 (Ewy_sym w2)) (wk_rw w1)
    rw [Nat.add_comm] at this
    exact this
theorem sgN_sy (A : Nat → Nat) (a b : Nat) : sgN A a b = sgN A b a := by
  have e : ∀ n, lst (Ew A (shS A)) a b n ↔ lst (Ew A (shS A)) b a n := fun n => ⟨fun y => ⟨wk_rw y.1, fun m hm w => y.2 m hm (wk_rw w)⟩, fun y => ⟨wk_rw y.1, fun m hm w => y.2 m hm (wk_rw w)⟩⟩
  unfold sgN
  by_cases c : ∃ n, lst (Ew A (shS A)) a b n
  · have c' : ∃ n, lst (Ew A (shS A)) b a n := c.elim fun n y => ⟨n, (e n).mp y⟩
    rw [dif_pos c, dif_pos c', lst_u (Classical.choose_spec c) ((e _).mpr (Classical.choose_spec c'))]
  · have c' : ¬ ∃ n, lst (Ew A (shS A)) b a n := fun y => c (y.elim fun n y => ⟨n, (e n).mpr y⟩)
    rw [dif_neg c, dif_neg c']
theorem sgN_l (h : lst (Ew A (shS A)) a b n) : sgN A a b = n + 1 := by
  have c : ∃ n, lst (Ew A (shS A)) a b n := ⟨n, h⟩
  unfold sgN
  rw [dif_pos c, lst_u (Classical.choose_spec c) h]
theorem sgN_0 (h : ∀ n, ¬ wk (Ew A (shS A)) n a b) : sgN A a b = 0 := by
  unfold sgN
  rw [dif_neg (fun ⟨n, y⟩ => h n y.1)]
theorem sgN_aa (A : Nat → Nat) (a : Nat) : sgN A a a = 1 := sgN_l (n := 0) ⟨rfl, fun _ y => absurd y (Nat.not_lt_zero _)⟩
theorem wk_mono {E F : Nat → Nat → Prop} (h : ∀ x y, F x y → E x y) : ∀ {n b : Nat}, wk F n a b → wk E n a b
  | 0, _, w => w
  | _ + 1, _, ⟨c, w1, w2⟩ => ⟨c, wk_mono h w1, h _ _ w2⟩
theorem Ew_aS (h20 : A 245 ≤ 20) (x y : Nat) : Ew (aS A S) (shS (aS A S)) x y ↔ ∃ v, v < A 245 ∧ ¬ (A (3 * v + 2) = 1 ∨ S.testBit v = true) ∧ ((A (3 * v) = x ∧ A (3 * v + 1) = y) ∨ (A (3 * v) = y ∧ A (3 * v + 1) = x)) := by
  show (∃ v, v < aS A S 245 ∧ _ ∧ _) ↔ _
  rw [aS_ge (A := A) (S := S) (show 60 ≤ 245 by omega)]
  refine exists_congr fun v => and_congr_right fun hv => ?_
  obtain ⟨e1, e2, e3⟩ := aS_3 (A := A) (S := S) (show v < 20 by omega)
  rw [e1, e2]
  exact and_congr (not_congr e3) Iff.rfl
/-- with more shutters all is as far, farther, or out of sight -/
theorem poS_a (w : wfW A) (ha : a < 12) (S : Nat) : poS A a b (sgN (aS A S) a b) := by
  by_cases z : a = b
  · subst z
    left
    rw [sgN_aa, sgN_aa]
  have mono : ∀ x y, Ew (aS A S) (shS (aS A S)) x y → Ew A (shS A) x y := fun x y h => by
    rw [Ew_aS w.1] at h
    obtain ⟨v, h1, h2, h3⟩ := h
    exact ⟨v, h1, fun y => h2 (.inl y), h3⟩
  have E12 : ∀ x y, Ew A (shS A) x y → x < 12 ∧ y < 12 := Ew_in (fun v hv => ⟨(w.2.1 v hv).1, (w.2.1 v hv).2.1⟩)
  have E12' : ∀ x y, Ew (aS A S) (shS (aS A S)) x y → x < 12 ∧ y < 12 := fun x y h => E12 x y (mono x y h)
  by_cases c : ∃ n, wk (Ew (aS A S) (shS (aS A S))) n a b
  · obtain ⟨n, c⟩ := c
    obtain ⟨m, hm, _, lm⟩ := wk_short E12' ha c
    obtain ⟨n', hn', hle, ln⟩ := wk_short E12 ha (wk_mono mono lm.1)
    rw [sgN_l lm]
    right
    rw [sgN_l ln]
    exact ⟨z, by omega, .inr ⟨by omega, by omega⟩⟩
  · rw [sgN_0 (fun n y => c ⟨n, y⟩)]
    by_cases y : sgN A a b = 0
    · exact .inl y.symm
    · exact .inr ⟨z, y, .inl rfl⟩
theorem pcS_q (wl : wfL A) (wn : wfN A) (S : Nat) : pcS A S ↔ ∀ a b, a < 12 → b < 12 → ¬ cfl A (nd0 A) a b (sgN (aS A S) a b) :=
  out_q (N := nd0 A) (B := aS A S) (A := A) (fun j hj => aS_ge hj) (sgN_sy _) (wfD_0 wl wn)
end SH
