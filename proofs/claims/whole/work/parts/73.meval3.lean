/-! ===== the model's evaluation: sums, then tests ===== -/
section EV
variable {cs vs : Nat → Nat} {isV : Nat → Bool} {n b : Nat} {w : Nat → Int} {h0 h : ah_T}
theorem ev_sum {d : Nat} {rec : Option (Nat → Nat → pR Mg)} (t : Lx cs vs isV n b w h0) (hd : 8 ≤ d) (hr : ∀ f, rec = some f → lvO n f) (hp : mEv cs vs isV n b w h0 (mX12_termOf (d - 1)) (pTerm cs vs isV rec)) : mEv cs vs isV n b w h0 (mX12_sumOf d) (pSum0 cs vs isV rec) := by
  have ok := pTerm_ok (vs := vs) t.2.1 t.2.2.1 hr
  have h400 := t.1
  have lS : ∀ (k : Nat) (Q : Option Value → ah_T → Prop) (h : ah_T) (y : Mg) (i lv : Nat) (live br0 br : Bool) (v : Int64), n - i < k → i ≤ n → lv ≤ 50 → (pCh cs (pTerm cs vs isV rec) isAdd opM k y i lv).1 = true → ex b h0 h i br → evR w live br0 y v br → (∀ v' h' br', ex b h0 h' (pCh cs (pTerm cs vs isV rec) isAdd opM k y i lv).2.1 br' → evR w live br0 (pCh cs (pTerm cs vs isV rec) isAdd opM k y i lv).2.2.2 v' br' → Q (some (.long v')) h') → Wp (mX12_sumOf d) Q 0 0 6 [some (.ref 82), some (.int (bI live)), some (.long v), none, none, none, none] [] h := by
    intro k
    induction k with
    | zero => intro Q h y i lv live br0 br v hk; omega
    | succ k ih =>
      intro Q h y i lv live br0 br v hk hi hl hok q hy hq
      unfold pCh at hok hq
      obtain ⟨a1, a2⟩ := cdA t q hi
      have c4 := (t.2.2.2.2.2.2.1 i hi).1
      have q43 : nI (cs i) = nI 143 ↔ cs i = 143 := nI_eq (by omega) (by omega)
      have q45 : nI (cs i) = nI 145 ↔ cs i = 145 := nI_eq (by omega) (by omega)
      refine T_X12_sumOf_6 hd q.1.1 _ _ ?_
      rw [a1, show f_X12_sign 43 = nI 143 from rfl, show f_X12_sign 45 = nI 145 from rfl]
      have go : ∀ (op : Int64 → Int64), isAdd (cs i) = true → (∀ u x1 x2, y w = some x1 → (pTerm cs vs isV rec (i + 1) lv).2.2.2 w = some x2 → v.toInt = x1 → u.toInt = x2 → -1000000000 ≤ x1 → x1 ≤ 1000000000 → -1000000000 ≤ x2 → x2 ≤ 1000000000 → opM (cs i) y (pTerm cs vs isV rec (i + 1) lv).2.2.2 w = bnd (op u).toInt) → ∀ h8, h8 = ah_si h 82 20 (ah_i h 82 20 + 1) → Mt (mX12_termOf (d - 1)) [.ref 82, .int (bI live)] h8 (ab_ql fun v13 h11 => Sh h11 ∧ (Mt mX12_bounded [.ref 82, .long (op v13), .int (bI live)] h11 (ab_ql fun v16 h14 => Sh h14 ∧ Wp (mX12_sumOf d) Q 0 0 6 [some (.ref 82), some (.int (bI live)), some (.long v16), none, none, none, none] [] h14))) := by
        rintro op c hop h8 rfl
        rw [if_pos c] at hok hq
        have hin : i < n := by
          rcases Nat.lt_or_ge i n with z | z
          · exact z
          · have : i = n := by omega
            rw [this, t.2.1] at c
            exact absurd c (by decide)
        obtain ⟨e1, e2, e3⟩ := ok (i + 1) lv (by omega) hl
        have c2 : (pTerm cs vs isV rec (i + 1) lv).1 = true := by
          cases u : (pTerm cs vs isV rec (i + 1) lv).1
          · rw [if_neg (by rw [u]; decide), u] at hok
            exact absurd hok (by decide)
          · rfl
        rw [if_pos c2] at hok hq
        obtain ⟨e4, e5, e6⟩ := e3 c2
        refine hp _ _ (i + 1) lv live br (by omega) hl c2 (ex_go q) (fun u h11 br1 w11 r11 => ⟨_, rfl, w11.1.1, ?_⟩)
        refine mt_bounded w11 (fun v3 h33 br3 w33 B1 B2 => ⟨_, rfl, w33.1.1, ?_⟩)
        refine ih Q h33 _ _ _ live br0 br3 v3 (by omega) e1 e6 hok w33 ?_ hq
        exact ev_op (z := false) hy r11 (show br1 = (br1 || (live && false)) by simp) (fun z => absurd z (by decide)) (fun _ x1 x2 => hop u x1 x2) B1 B2
      have plus : cs i = 143 → ∀ u x1 x2, y w = some x1 → (pTerm cs vs isV rec (i + 1) lv).2.2.2 w = some x2 → v.toInt = x1 → u.toInt = x2 → -1000000000 ≤ x1 → x1 ≤ 1000000000 → -1000000000 ≤ x2 → x2 ≤ 1000000000 → opM (cs i) y (pTerm cs vs isV rec (i + 1) lv).2.2.2 w = bnd (v + u).toInt := by
        intro c u x1 x2 ey em ev eu v1 v2 u1 u2
        unfold opM
        rw [ey, em]
        dsimp only
        rw [if_pos c, l_add (by omega) (by omega) (by omega) (by omega), ev, eu]
      have minus : cs i = 145 → ∀ u x1 x2, y w = some x1 → (pTerm cs vs isV rec (i + 1) lv).2.2.2 w = some x2 → v.toInt = x1 → u.toInt = x2 → -1000000000 ≤ x1 → x1 ≤ 1000000000 → -1000000000 ≤ x2 → x2 ≤ 1000000000 → opM (cs i) y (pTerm cs vs isV rec (i + 1) lv).2.2.2 w = bnd (v - u).toInt := by
        intro c u x1 x2 ey em ev eu v1 v2 u1 u2
        unfold opM
        rw [ey, em]
        dsimp only
        rw [if_neg (by omega), if_pos c, l_sub (by omega) (by omega) (by omega) (by omega), ev, eu]
      refine ⟨a2, fun k1 => ⟨a2, fun k2 => absurd k1 k2, fun _ => go (fun u => v + u) (by rw [q43.mp k1]; rfl) (plus (q43.mp k1))⟩, fun k1 => ⟨a2, fun k2 => ?_, fun k2 => ⟨a2, fun _ => go (fun u => v - u) (by rw [q45.mp k2]; rfl) (minus (q45.mp k2)), fun k3 => absurd k3 k1⟩⟩⟩
      have c' : ¬ isAdd (cs i) = true := by
        unfold isAdd
        simp
        exact ⟨fun e => k1 (by rw [e]), fun e => k2 (by rw [e])⟩
      rw [if_neg c'] at hq
      exact hq v h br q hy
  intro Q h i lv live br hi hl hok q hq
  unfold pSum0 pChain at hok hq
  obtain ⟨e1, e2, e3⟩ := ok i lv hi hl
  have c2 : (pTerm cs vs isV rec i lv).1 = true := by
    cases u : (pTerm cs vs isV rec i lv).1
    · rw [if_neg (by rw [u]; decide), u] at hok
      exact absurd hok (by decide)
    · rfl
  rw [if_pos c2] at hok hq
  obtain ⟨e4, e5, e6⟩ := e3 c2
  exact T_X12_sumOf hd q.1.1 _ (hp _ h i lv live br hi hl c2 q (fun v h1 br1 w1 r1 => ⟨_, rfl, w1.1.1, lS 401 Q h1 _ _ _ live br br1 v (by omega) e1 e6 hok w1 r1 hq⟩))
theorem ev_Sum (t : Lx cs vs isV n b w h0) : ∀ (e d : Nat), 12 + 3 * e ≤ d → mEv cs vs isV n b w h0 (mX12_sumOf d) (pSum cs vs isV e) := by
  intro e
  induction e with
  | zero =>
    intro d hd
    have hr : ∀ f, (none : Option (Nat → Nat → pR Mg)) = some f → lvO n f := fun f q => by cases q
    exact ev_sum (rec := none) t (by omega) hr (ev_term t (by omega) hr (ev_part t (by omega) (fun f q => by cases q)))
  | succ e ih =>
    intro d hd
    have ok := pSum_ok (vs := vs) (isV := isV) t.2.1 t.2.2.1 e
    have hr : ∀ f, (some (pSum cs vs isV e)) = some f → lvO n f := fun f q => by cases q; exact ok
    have h1 := ih (d - 1 - 1 - 1) (by omega)
    exact ev_sum (rec := some (pSum cs vs isV e)) t (by omega) hr (ev_term t (by omega) hr (ev_part t (by omega) (fun f q => by cases q; exact ⟨ok, h1⟩)))
/-! ## tests -/
def evT (w : Nat → Int) (live br : Bool) (m : Tg) (v : Bool) (br' : Bool) : Prop :=
  (¬ (live = true ∧ br = false) → br' = br) ∧ (live = true → br = false → (m w = none → br' = true) ∧ ∀ x, m w = some x → br' = false ∧ v = x)
def mEt (cs vs : Nat → Nat) (isV : Nat → Bool) (n b : Nat) (w : Nat → Int) (h0 : ah_T) (M : ab_M) (f : Nat → Nat → pR Tg) : Prop :=
  ∀ (Q : Option Value → ah_T → Prop) (h : ah_T) (i lv : Nat) (live br : Bool), i ≤ n → lv ≤ 50 → (f i lv).1 = true → ex b h0 h i br → (∀ v h' br', ex b h0 h' (f i lv).2.1 br' → evT w live br (f i lv).2.2.2 v br' → Q (some (.int (bI v))) h') → Mt M [.ref 82, .int (bI live)] h Q
theorem bI_b (v : Bool) : ab_b (bI v) := by cases v; exact .inl rfl; exact .inr rfl
theorem bI_0 {v : Bool} : bI v = 0 ↔ v = false := by cases v <;> decide
theorem cv_bool {v : Bool} {P : Prop} (h0 : v = false → P) (h1 : v = true → P) : P := by cases v; exact h0 rfl; exact h1 rfl
theorem ev_positive {d e : Nat} {rec : Option (Nat → Nat → pR Tg)} (t : Lx cs vs isV n b w h0) (hd : 8 ≤ d) (hs : mEv cs vs isV n b w h0 (mX12_sumOf (d - 1)) (pSum cs vs isV e)) (hrec : ∀ f, rec = some f → lvO n f ∧ mEt cs vs isV n b w h0 (mX12_testOf (d - 1)) f) : mEt cs vs isV n b w h0 (mX12_positiveOf d) (pPos cs vs isV e rec) := by
  intro Q h i lv live br hi hl hok q hq
  unfold pPos at hok hq
  refine T_X12_positiveOf hd q.1.1 _ ?_
  rw [show f_X12_sign 40 = nI 140 from rfl]
  refine mt_pass t q hi rfl (by decide) (fun c h1 w1 => ⟨_, rfl, w1.1.1, ?_⟩) (fun c => ⟨_, rfl, q.1.1, ?_⟩)
  · rw [if_pos c] at hok hq
    have hin : i < n := by
      rcases Nat.lt_or_ge i n with k | k
      · exact k
      · have : i = n := by omega
        rw [this, t.2.1] at c
        omega
    (first | refine ⟨fun _ => ?_, fun n_ => absurd (show ¬ (1 : Int32) = 0 by decide) n_⟩ | refine ⟨fun n_ => absurd (show ¬ (1 : Int32) = 0 by decide) n_, fun _ => ?_⟩ | refine ⟨fun y_ => absurd y_ (show ¬ (1 : Int32) = 0 by decide), fun _ => ?_⟩ | refine ⟨fun _ => ?_, fun y_ => absurd y_ (show ¬ (1 : Int32) = 0 by decide)⟩)
    cases rec with
    | none => exact absurd (show false = true from hok) (by decide)
    | some f =>
      obtain ⟨okf, hf⟩ := hrec f rfl
      dsimp only at hok hq
      by_cases c2 : (f (i + 1) lv).1 = true
      · rw [if_pos c2] at hok hq
        by_cases c3 : cs (f (i + 1) lv).2.1 = 141
        · rw [if_pos c3] at hok hq
          refine hf _ h1 (i + 1) lv live br (by omega) hl c2 w1 (fun v h17 br' w17 r17 => ⟨_, rfl, w17.1.1, ?_⟩)
          rintro h20 rfl
          exact ⟨bI_b v, hq v _ br' (ex_go w17) r17⟩
        · rw [if_neg c3] at hok
          exact absurd (show false = true from hok) (by decide)
      · rw [if_neg c2] at hok
        exact absurd hok c2
  · rw [if_neg c] at hok hq
    (first | refine ⟨fun _ => ?_, fun n_ => absurd (show (0 : Int32) = 0 by rfl) n_⟩ | refine ⟨fun n_ => absurd (show (0 : Int32) = 0 by rfl) n_, fun _ => ?_⟩ | refine ⟨fun y_ => absurd y_ (show (0 : Int32) = 0 by rfl), fun _ => ?_⟩ | refine ⟨fun _ => ?_, fun y_ => absurd y_ (show (0 : Int32) = 0 by rfl)⟩)
    have okS := pSum_ok (vs := vs) (isV := isV) t.2.1 t.2.2.1 e
    obtain ⟨e1, e2, e3⟩ := okS i lv hi hl
    by_cases c2 : (pSum cs vs isV e i lv).1 = true
    · rw [if_pos c2] at hok hq
      obtain ⟨e4, e5, e6⟩ := e3 c2
      by_cases c3 : isCmp (cs (pSum cs vs isV e i lv).2.1) = true
      · rw [if_pos c3] at hok hq
        have hlt : (pSum cs vs isV e i lv).2.1 < n := by
          rcases Nat.lt_or_ge (pSum cs vs isV e i lv).2.1 n with y | y
          · exact y
          · have : (pSum cs vs isV e i lv).2.1 = n := by omega
            rw [this, t.2.1] at c3
            exact absurd c3 (by decide)
        by_cases c4 : (pSum cs vs isV e ((pSum cs vs isV e i lv).2.1 + 1) (pSum cs vs isV e i lv).2.2.1).1 = true
        · rw [if_pos c4] at hok hq
          refine hs _ h i lv live br hi hl c2 q (fun v h5 br1 w5 r5 => ⟨_, rfl, w5.1.1, ?_⟩)
          obtain ⟨a1, a2⟩ := cdA t w5 e1
          have c5 := (t.2.2.2.2.2.2.1 _ e1).1
          refine ⟨a2, ?_⟩
          rw [a1, show f_X12_sign 60 = nI 160 from rfl, show f_X12_sign 62 = nI 162 from rfl]
          rintro h9 rfl
          refine hs _ _ _ _ live br1 (by omega) e6 c4 (ex_go w5) (fun u h12 br2 w12 r12 => ⟨_, rfl, w12.1.1, ?_⟩)
          rw [w12.2.2, lg_cmp_eq, lg_cmp_le, lg_cmp_ge]
          -- what is to be shown of the answer
          have k60 : nI (cs (pSum cs vs isV e i lv).2.1) = nI 160 ↔ cs (pSum cs vs isV e i lv).2.1 = 160 := nI_eq (by omega) (by omega)
          have k62 : nI (cs (pSum cs vs isV e i lv).2.1) = nI 162 ↔ cs (pSum cs vs isV e i lv).2.1 = 162 := nI_eq (by omega) (by omega)
          have notlive : ¬ (live = true ∧ br2 = false) → Q (some (.int 0)) h12 := by
            intro k
            refine hq false h12 br2 w12 ⟨fun z => ?_, fun l1 l2 => ⟨fun _ => ?_, fun x ex => ?_⟩⟩
            · have b1 := r5.1 z
              subst b1
              exact r12.1 z
            · cases br2
              · exact absurd ⟨l1, rfl⟩ k
              · rfl
            · exfalso
              have hb2 : br2 = true := by
                cases br2
                · exact absurd ⟨l1, rfl⟩ k
                · rfl
              unfold cmpT at ex
              dsimp only at ex
              cases ey : (pSum cs vs isV e i lv).2.2.2 w with
              | none => rw [ey] at ex; cases ex
              | some x1 =>
                obtain ⟨g1, -⟩ := (r5.2 l1 l2).2 x1 ey
                cases em : (pSum cs vs isV e ((pSum cs vs isV e i lv).2.1 + 1) (pSum cs vs isV e i lv).2.2.1).2.2.2 w with
                | none => rw [ey, em] at ex; cases ex
                | some x2 =>
                  obtain ⟨g2, -⟩ := (r12.2 l1 g1).2 x2 em
                  rw [g2] at hb2
                  exact absurd hb2 (by decide)
          have islive : live = true → br2 = false → ∀ vv : Bool, (∀ x1 x2 : Int, v.toInt = x1 → u.toInt = x2 → vv = (if cs (pSum cs vs isV e i lv).2.1 = 160 then decide (x1 < x2) else if cs (pSum cs vs isV e i lv).2.1 = 162 then decide (x2 < x1) else decide (x1 = x2))) → Q (some (.int (bI vv))) h12 := by
            intro l1 hb2 vv hvv
            refine hq vv h12 br2 w12 ⟨fun z => ?_, fun _ l2 => ⟨fun k => ?_, fun x ex => ?_⟩⟩
            · have b1 := r5.1 z
              subst b1
              exact r12.1 z
            · exfalso
              unfold cmpT at k
              dsimp only at k
              cases ey : (pSum cs vs isV e i lv).2.2.2 w with
              | none =>
                have g1 := (r5.2 l1 l2).1 ey
                have g2 := r12.1 (by rw [g1]; exact fun z => absurd z.2 (by decide))
                rw [g2, g1] at hb2
                exact absurd hb2 (by decide)
              | some x1 =>
                obtain ⟨g1, -⟩ := (r5.2 l1 l2).2 x1 ey
                cases em : (pSum cs vs isV e ((pSum cs vs isV e i lv).2.1 + 1) (pSum cs vs isV e i lv).2.2.1).2.2.2 w with
                | none =>
                  have g2 := (r12.2 l1 g1).1 em
                  rw [g2] at hb2
                  exact absurd hb2 (by decide)
                | some x2 => rw [ey, em] at k; cases k
            · refine ⟨hb2, ?_⟩
              unfold cmpT at ex
              dsimp only at ex
              cases ey : (pSum cs vs isV e i lv).2.2.2 w with
              | none => rw [ey] at ex; cases ex
              | some x1 =>
                obtain ⟨g1, g3, -⟩ := (r5.2 l1 l2).2 x1 ey
                cases em : (pSum cs vs isV e ((pSum cs vs isV e i lv).2.1 + 1) (pSum cs vs isV e i lv).2.2.1).2.2.2 w with
                | none => rw [ey, em] at ex; cases ex
                | some x2 =>
                  obtain ⟨g2, g4, -⟩ := (r12.2 l1 g1).2 x2 em
                  rw [ey, em] at ex
                  rw [hvv x1 x2 g3 g4]
                  exact Option.some.inj ex
          cases live
          · (first | refine ⟨fun _ => ?_, fun n_ => absurd (show bI false = 0 by rfl) n_⟩ | refine ⟨fun n_ => absurd (show bI false = 0 by rfl) n_, fun _ => ?_⟩ | refine ⟨fun y_ => absurd y_ (show bI false = 0 by rfl), fun _ => ?_⟩ | refine ⟨fun _ => ?_, fun y_ => absurd y_ (show bI false = 0 by rfl)⟩)
            exact notlive (fun z => absurd z.1 (by decide))
          (first | refine ⟨fun _ => ?_, fun n_ => absurd (show ¬ bI true = 0 by decide) n_⟩ | refine ⟨fun n_ => absurd (show ¬ bI true = 0 by decide) n_, fun _ => ?_⟩ | refine ⟨fun y_ => absurd y_ (show ¬ bI true = 0 by decide), fun _ => ?_⟩ | refine ⟨fun _ => ?_, fun y_ => absurd y_ (show ¬ bI true = 0 by decide)⟩)
          cases br2
          · (first | refine ⟨fun _ => ?_, fun n_ => absurd (show bI false = 0 by rfl) n_⟩ | refine ⟨fun n_ => absurd (show bI false = 0 by rfl) n_, fun _ => ?_⟩ | refine ⟨fun y_ => absurd y_ (show bI false = 0 by rfl), fun _ => ?_⟩ | refine ⟨fun _ => ?_, fun y_ => absurd y_ (show bI false = 0 by rfl)⟩)
            have L := islive rfl rfl
            rw [Int64.le_iff_toInt_le, Int64.le_iff_toInt_le, ← Int64.toInt_inj]
            refine ⟨fun n60 => ⟨fun n62 => ⟨fun k => L false (fun x1 x2 g1 g2 => ?_), fun k => L true (fun x1 x2 g1 g2 => ?_)⟩, fun y62 => ⟨fun k => L false (fun x1 x2 g1 g2 => ?_), fun k => L true (fun x1 x2 g1 g2 => ?_)⟩⟩, fun y60 => ⟨fun k => L false (fun x1 x2 g1 g2 => ?_), fun k => L true (fun x1 x2 g1 g2 => ?_)⟩⟩
            · rw [if_neg (fun z => n60 (k60.mpr z)), if_neg (fun z => n62 (k62.mpr z)), eq_comm, decide_eq_false_iff_not]; omega
            · rw [if_neg (fun z => n60 (k60.mpr z)), if_neg (fun z => n62 (k62.mpr z)), eq_comm, decide_eq_true_eq]; omega
            · rw [if_neg (fun z => n60 (k60.mpr z)), if_pos (k62.mp y62), eq_comm, decide_eq_false_iff_not]; omega
            · rw [if_neg (fun z => n60 (k60.mpr z)), if_pos (k62.mp y62), eq_comm, decide_eq_true_eq]; omega
            · rw [if_pos (k60.mp y60), eq_comm, decide_eq_false_iff_not]; omega
            · rw [if_pos (k60.mp y60), eq_comm, decide_eq_true_eq]; omega
          · (first | refine ⟨fun _ => ?_, fun n_ => absurd (show ¬ bI true = 0 by decide) n_⟩ | refine ⟨fun n_ => absurd (show ¬ bI true = 0 by decide) n_, fun _ => ?_⟩ | refine ⟨fun y_ => absurd y_ (show ¬ bI true = 0 by decide), fun _ => ?_⟩ | refine ⟨fun _ => ?_, fun y_ => absurd y_ (show ¬ bI true = 0 by decide)⟩)
            exact notlive (fun z => absurd z.2 (by decide))
        · rw [if_neg c4] at hok
          exact absurd (show false = true from hok) (by decide)
      · rw [if_neg c3] at hok
        exact absurd (show false = true from hok) (by decide)
    · rw [if_neg c2] at hok
      exact absurd (show false = true from hok) (by decide)
end EV
