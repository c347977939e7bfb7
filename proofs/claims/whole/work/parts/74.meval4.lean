/-! ===== the model's evaluation of tests ===== -/
section EV
variable {cs vs : Nat → Nat} {isV : Nat → Bool} {n b : Nat} {w : Nat → Int} {h0 h : ah_T}
theorem et_and {live br0 br br1 v u : Bool} {y m : Tg} (Hy : evT w live br0 y v br) (Hm : evT w (live && v) br m u br1) : evT w live br0 (andT y m) (v && u) br1 := by
  obtain ⟨y1, y2⟩ := Hy
  obtain ⟨m1, m2⟩ := Hm
  refine ⟨fun k => ?_, fun l1 l2 => ?_⟩
  · have e1 := y1 k
    subst e1
    exact m1 (fun z => k ⟨by have := z.1; cases live <;> simp_all, z.2⟩)
  · subst l1 l2
    unfold andT
    cases ey : y w with
    | none =>
      have e := (y2 rfl rfl).1 ey
      subst e
      exact ⟨fun _ => m1 (fun z => absurd z.2 (by decide)), fun x q => by cases q⟩
    | some a =>
      obtain ⟨e1, e2⟩ := (y2 rfl rfl).2 a ey
      subst e1 e2
      cases v
      · have e3 := m1 (fun z => absurd z.1 (by decide))
        exact ⟨fun q => (by cases q), fun x q => ⟨e3, Option.some.inj q⟩⟩
      · obtain ⟨g1, g2⟩ := m2 rfl rfl
        exact ⟨g1, fun x q => ⟨(g2 x q).1, (g2 x q).2⟩⟩
theorem et_or {live br0 br br1 v u : Bool} {y m : Tg} (Hy : evT w live br0 y v br) (Hm : evT w (live && !v) br m u br1) : evT w live br0 (orT y m) (v || u) br1 := by
  obtain ⟨y1, y2⟩ := Hy
  obtain ⟨m1, m2⟩ := Hm
  refine ⟨fun k => ?_, fun l1 l2 => ?_⟩
  · have e1 := y1 k
    subst e1
    exact m1 (fun z => k ⟨by have := z.1; cases live <;> simp_all, z.2⟩)
  · subst l1 l2
    unfold orT
    cases ey : y w with
    | none =>
      have e := (y2 rfl rfl).1 ey
      subst e
      exact ⟨fun _ => m1 (fun z => absurd z.2 (by decide)), fun x q => by cases q⟩
    | some a =>
      obtain ⟨e1, e2⟩ := (y2 rfl rfl).2 a ey
      subst e1 e2
      cases v
      · obtain ⟨g1, g2⟩ := m2 rfl rfl
        exact ⟨g1, fun x q => ⟨(g2 x q).1, (g2 x q).2⟩⟩
      · have e3 := m1 (fun z => absurd z.1 (by decide))
        exact ⟨fun q => (by cases q), fun x q => ⟨e3, Option.some.inj q⟩⟩
theorem et_not {live br br1 v f : Bool} {m : Tg} (Hm : evT w live br m v br1) : evT w live br (notT f m) (if f then !v else v) br1 := by
  obtain ⟨m1, m2⟩ := Hm
  refine ⟨m1, fun l1 l2 => ?_⟩
  obtain ⟨g1, g2⟩ := m2 l1 l2
  unfold notT
  cases em : m w with
  | none => exact ⟨fun _ => g1 em, fun x q => by cases q⟩
  | some a =>
    obtain ⟨e1, e2⟩ := g2 a em
    subst e2
    exact ⟨fun q => (by cases q), fun x q => ⟨e1, Option.some.inj q⟩⟩
theorem ev_plain {d e : Nat} {rec : Option (Nat → Nat → pR Tg)} (t : Lx cs vs isV n b w h0) (hd : 8 ≤ d) (hp : mEt cs vs isV n b w h0 (mX12_positiveOf (d - 1)) (pPos cs vs isV e rec)) : mEt cs vs isV n b w h0 (mX12_plainOf d) (pPlain cs vs isV e rec) := by
  have h400 := t.1
  intro Q h i lv live br hi hl hok q hq
  have lp : ∀ (k : Nat) (h : ah_T) (i : Nat) (f : Bool), n - i < k → i ≤ n → ex b h0 h i br → (∀ h', ex b h0 h' (i + nots cs k i) br → Mt (mX12_positiveOf (d - 1)) [.ref 82, .int (bI live)] h' (ab_qi fun v7 h5 => Sh h5 ∧ ((v7 = bI (f ^^ (nots cs k i % 2 == 1)) → Q (some (.int 0)) h5) ∧ (¬ v7 = bI (f ^^ (nots cs k i % 2 == 1)) → Q (some (.int 1)) h5)))) → Wp (mX12_plainOf d) Q 0 0 2 [some (.ref 82), some (.int (bI live)), some (.int (bI f))] [] h := by
    intro k
    induction k with
    | zero => intro h i f hk; omega
    | succ k ih =>
      intro h i f hk hi q hq
      unfold nots at hq
      refine T_X12_plainOf_2 hd q.1.1 _ _ (mt_pass t q hi (k := 7) rfl (by decide) (fun c h' w1 => ⟨_, rfl, w1.1.1, ?_⟩) (fun c => ⟨_, rfl, q.1.1, ?_⟩))
      · rw [if_pos c] at hq
        have hin : i < n := by
          rcases Nat.lt_or_ge i n with z | z
          · exact z
          · have : i = n := by omega
            rw [this, t.2.1] at c
            omega
        have par : ∀ m : Nat, (f ^^ ((m + 1) % 2 == 1)) = (!f ^^ (m % 2 == 1)) := by
          intro m
          rcases (show m % 2 = 0 ∨ m % 2 = 1 by omega) with z | z
          · have : (m + 1) % 2 = 1 := by omega
            rw [z, this]; cases f <;> rfl
          · have : (m + 1) % 2 = 0 := by omega
            rw [z, this]; cases f <;> rfl
        have go := ih h' (i + 1) (!f) (by omega) (by omega) w1 (fun h2 w2 => by
          rw [← par]
          exact hq h2 (by rwa [show i + (nots cs k (i + 1) + 1) = i + 1 + nots cs k (i + 1) by omega]))
        (first | refine ⟨fun _ => ?_, fun n_ => absurd (show ¬ (1 : Int32) = 0 by decide) n_⟩ | refine ⟨fun n_ => absurd (show ¬ (1 : Int32) = 0 by decide) n_, fun _ => ?_⟩ | refine ⟨fun y_ => absurd y_ (show ¬ (1 : Int32) = 0 by decide), fun _ => ?_⟩ | refine ⟨fun _ => ?_, fun y_ => absurd y_ (show ¬ (1 : Int32) = 0 by decide)⟩)
        cases f
        · (first | refine ⟨fun _ => ?_, fun n_ => absurd (show bI false = 0 by rfl) n_⟩ | refine ⟨fun n_ => absurd (show bI false = 0 by rfl) n_, fun _ => ?_⟩ | refine ⟨fun y_ => absurd y_ (show bI false = 0 by rfl), fun _ => ?_⟩ | refine ⟨fun _ => ?_, fun y_ => absurd y_ (show bI false = 0 by rfl)⟩)
          exact go
        · (first | refine ⟨fun _ => ?_, fun n_ => absurd (show ¬ bI true = 0 by decide) n_⟩ | refine ⟨fun n_ => absurd (show ¬ bI true = 0 by decide) n_, fun _ => ?_⟩ | refine ⟨fun y_ => absurd y_ (show ¬ bI true = 0 by decide), fun _ => ?_⟩ | refine ⟨fun _ => ?_, fun y_ => absurd y_ (show ¬ bI true = 0 by decide)⟩)
          exact go
      · rw [if_neg c] at hq
        (first | refine ⟨fun _ => ?_, fun n_ => absurd (show (0 : Int32) = 0 by rfl) n_⟩ | refine ⟨fun n_ => absurd (show (0 : Int32) = 0 by rfl) n_, fun _ => ?_⟩ | refine ⟨fun y_ => absurd y_ (show (0 : Int32) = 0 by rfl), fun _ => ?_⟩ | refine ⟨fun _ => ?_, fun y_ => absurd y_ (show (0 : Int32) = 0 by rfl)⟩)
        have := hq h q
        rwa [show (f ^^ (0 % 2 == 1)) = f by cases f <;> rfl] at this
  refine T_X12_plainOf hd q.1.1 _ (lp 401 h i false (by omega) hi q (fun h' w1 => ?_))
  refine hp _ h' _ lv live br (nots_le 401 i hi t.2.1) hl hok w1 (fun v h5 br' w5 r5 => ⟨_, rfl, w5.1.1, ?_⟩)
  have r6 := et_not (f := nots cs 401 i % 2 == 1) r5
  have fin := fun vv (e : vv = (if (nots cs 401 i % 2 == 1) = true then !v else v)) => hq vv h5 br' w5 (by rw [e]; exact r6)
  have e0 : (false ^^ (nots cs 401 i % 2 == 1)) = (nots cs 401 i % 2 == 1) := by cases (nots cs 401 i % 2 == 1) <;> rfl
  rw [e0]
  revert fin
  generalize (nots cs 401 i % 2 == 1) = g
  intro fin
  refine ⟨fun z => fin false ?_, fun z => fin true ?_⟩
  · cases v <;> cases g <;> first | rfl | exact absurd z (by decide)
  · cases v <;> cases g <;> first | rfl | exact absurd rfl z
theorem ev_both {d e : Nat} {rec : Option (Nat → Nat → pR Tg)} (t : Lx cs vs isV n b w h0) (hd : 8 ≤ d) (hr : ∀ f, rec = some f → lvO n f) (hp : mEt cs vs isV n b w h0 (mX12_plainOf (d - 1)) (pPlain cs vs isV e rec)) : mEt cs vs isV n b w h0 (mX12_bothOf d) (pBoth cs vs isV e rec) := by
  have ok := pPlain_ok (vs := vs) (e := e) t.2.1 t.2.2.1 hr
  have h400 := t.1
  have lS : ∀ (k : Nat) (Q : Option Value → ah_T → Prop) (h : ah_T) (y : Tg) (i lv : Nat) (live br0 br v : Bool), n - i < k → i ≤ n → lv ≤ 50 → (pCh cs (pPlain cs vs isV e rec) (fun c => c == 6) (fun _ => andT) k y i lv).1 = true → ex b h0 h i br → evT w live br0 y v br → (∀ v' h' br', ex b h0 h' (pCh cs (pPlain cs vs isV e rec) (fun c => c == 6) (fun _ => andT) k y i lv).2.1 br' → evT w live br0 (pCh cs (pPlain cs vs isV e rec) (fun c => c == 6) (fun _ => andT) k y i lv).2.2.2 v' br' → Q (some (.int (bI v'))) h') → Wp (mX12_bothOf d) Q 0 0 6 [some (.ref 82), some (.int (bI live)), some (.int (bI v)), none] [] h := by
    intro k
    induction k with
    | zero => intro Q h y i lv live br0 br v hk; omega
    | succ k ih =>
      intro Q h y i lv live br0 br v hk hi hl hok q hy hq
      unfold pCh at hok hq
      refine T_X12_bothOf_6 hd q.1.1 _ _ (mt_pass t q hi (k := 6) rfl (by decide) (fun c h4 w4 => ⟨_, rfl, w4.1.1, ?_⟩) (fun c => ⟨_, rfl, q.1.1, ?_⟩))
      · rw [if_pos (by simp [c])] at hok hq
        have hin : i < n := by
          rcases Nat.lt_or_ge i n with z | z
          · exact z
          · have : i = n := by omega
            rw [this, t.2.1] at c
            omega
        obtain ⟨e1, e2, e3⟩ := ok (i + 1) lv (by omega) hl
        have c2 : (pPlain cs vs isV e rec (i + 1) lv).1 = true := by
          cases u : (pPlain cs vs isV e rec (i + 1) lv).1
          · rw [if_neg (by rw [u]; decide), u] at hok
            exact absurd hok (by decide)
          · rfl
        rw [if_pos c2] at hok hq
        obtain ⟨e4, e5, e6⟩ := e3 c2
        have go : ∀ (P : Int32 → ah_T → Prop), (∀ u h10 br1, ex b h0 h10 (pPlain cs vs isV e rec (i + 1) lv).2.1 br1 → Wp (mX12_bothOf d) Q 0 0 6 [some (.ref 82), some (.int (bI live)), some (.int (bI (v && u))), none] [] h10 → P (bI u) h10) → Mt (mX12_plainOf (d - 1)) [.ref 82, .int (bI (live && v))] h4 (ab_qi fun v12 h10 => Sh h10 ∧ P v12 h10) := by
          intro P hP
          refine hp _ h4 (i + 1) lv (live && v) br (by omega) hl c2 w4 (fun u h10 br1 w10 r10 => ⟨_, rfl, w10.1.1, hP u h10 br1 w10 ?_⟩)
          exact ih Q h10 _ _ _ live br0 br1 (v && u) (by omega) e1 e6 hok w10 (et_and hy r10) hq
        (first | refine ⟨fun _ => ?_, fun n_ => absurd (show ¬ (1 : Int32) = 0 by decide) n_⟩ | refine ⟨fun n_ => absurd (show ¬ (1 : Int32) = 0 by decide) n_, fun _ => ?_⟩ | refine ⟨fun y_ => absurd y_ (show ¬ (1 : Int32) = 0 by decide), fun _ => ?_⟩ | refine ⟨fun _ => ?_, fun y_ => absurd y_ (show ¬ (1 : Int32) = 0 by decide)⟩)
        cases live
        · (first | refine ⟨fun _ => ?_, fun n_ => absurd (show bI false = 0 by rfl) n_⟩ | refine ⟨fun n_ => absurd (show bI false = 0 by rfl) n_, fun _ => ?_⟩ | refine ⟨fun y_ => absurd y_ (show bI false = 0 by rfl), fun _ => ?_⟩ | refine ⟨fun _ => ?_, fun y_ => absurd y_ (show bI false = 0 by rfl)⟩)
          refine go _ (fun u h10 br1 _ W => ?_)
          cases v <;> cases u <;> exact ⟨fun z => (by first | exact W | exact absurd z (by decide)), fun z => (by first | exact absurd rfl z | exact ⟨fun z2 => (by first | exact W | exact absurd z2 (by decide)), fun z2 => (by first | exact W | exact absurd rfl z2)⟩)⟩
        · (first | refine ⟨fun _ => ?_, fun n_ => absurd (show ¬ bI true = 0 by decide) n_⟩ | refine ⟨fun n_ => absurd (show ¬ bI true = 0 by decide) n_, fun _ => ?_⟩ | refine ⟨fun y_ => absurd y_ (show ¬ bI true = 0 by decide), fun _ => ?_⟩ | refine ⟨fun _ => ?_, fun y_ => absurd y_ (show ¬ bI true = 0 by decide)⟩)
          cases v
          · (first | refine ⟨fun _ => ?_, fun n_ => absurd (show bI false = 0 by rfl) n_⟩ | refine ⟨fun n_ => absurd (show bI false = 0 by rfl) n_, fun _ => ?_⟩ | refine ⟨fun y_ => absurd y_ (show bI false = 0 by rfl), fun _ => ?_⟩ | refine ⟨fun _ => ?_, fun y_ => absurd y_ (show bI false = 0 by rfl)⟩)
            refine go _ (fun u h10 br1 _ W => ?_)
            cases u <;> exact ⟨fun z => (by first | exact W | exact absurd z (by decide)), fun z => (by first | exact absurd rfl z | exact ⟨fun z2 => (by first | exact W | exact absurd z2 (by decide)), fun z2 => (by first | exact W | exact absurd rfl z2)⟩)⟩
          · (first | refine ⟨fun _ => ?_, fun n_ => absurd (show ¬ bI true = 0 by decide) n_⟩ | refine ⟨fun n_ => absurd (show ¬ bI true = 0 by decide) n_, fun _ => ?_⟩ | refine ⟨fun y_ => absurd y_ (show ¬ bI true = 0 by decide), fun _ => ?_⟩ | refine ⟨fun _ => ?_, fun y_ => absurd y_ (show ¬ bI true = 0 by decide)⟩)
            refine go _ (fun u h10 br1 _ W => ?_)
            cases u <;> exact ⟨fun z => (by first | exact W | exact absurd z (by decide)), fun z => (by first | exact absurd rfl z | exact ⟨fun z2 => (by first | exact W | exact absurd z2 (by decide)), fun z2 => (by first | exact W | exact absurd rfl z2)⟩)⟩
      · rw [if_neg (by simp [c])] at hq
        (first | refine ⟨fun _ => ?_, fun n_ => absurd (show (0 : Int32) = 0 by rfl) n_⟩ | refine ⟨fun n_ => absurd (show (0 : Int32) = 0 by rfl) n_, fun _ => ?_⟩ | refine ⟨fun y_ => absurd y_ (show (0 : Int32) = 0 by rfl), fun _ => ?_⟩ | refine ⟨fun _ => ?_, fun y_ => absurd y_ (show (0 : Int32) = 0 by rfl)⟩)
        exact ⟨bI_b v, hq v h br q hy⟩
  intro Q h i lv live br hi hl hok q hq
  unfold pBoth pChain at hok hq
  obtain ⟨e1, e2, e3⟩ := ok i lv hi hl
  have c2 : (pPlain cs vs isV e rec i lv).1 = true := by
    cases u : (pPlain cs vs isV e rec i lv).1
    · rw [if_neg (by rw [u]; decide), u] at hok
      exact absurd hok (by decide)
    · rfl
  rw [if_pos c2] at hok hq
  obtain ⟨e4, e5, e6⟩ := e3 c2
  exact T_X12_bothOf hd q.1.1 _ (hp _ h i lv live br hi hl c2 q (fun v h1 br1 w1 r1 => ⟨_, rfl, w1.1.1, lS 401 Q h1 _ _ _ live br br1 v (by omega) e1 e6 hok w1 r1 hq⟩))
theorem ev_test {d e : Nat} {rec : Option (Nat → Nat → pR Tg)} (t : Lx cs vs isV n b w h0) (hd : 8 ≤ d) (hr : ∀ f, rec = some f → lvO n f) (hp : mEt cs vs isV n b w h0 (mX12_bothOf (d - 1)) (pBoth cs vs isV e rec)) : mEt cs vs isV n b w h0 (mX12_testOf d) (pTest0 cs vs isV e rec) := by
  have ok := pBoth_ok (vs := vs) (e := e) t.2.1 t.2.2.1 hr
  have h400 := t.1
  have lS : ∀ (k : Nat) (Q : Option Value → ah_T → Prop) (h : ah_T) (y : Tg) (i lv : Nat) (live br0 br v : Bool), n - i < k → i ≤ n → lv ≤ 50 → (pCh cs (pBoth cs vs isV e rec) (fun c => c == 5) (fun _ => orT) k y i lv).1 = true → ex b h0 h i br → evT w live br0 y v br → (∀ v' h' br', ex b h0 h' (pCh cs (pBoth cs vs isV e rec) (fun c => c == 5) (fun _ => orT) k y i lv).2.1 br' → evT w live br0 (pCh cs (pBoth cs vs isV e rec) (fun c => c == 5) (fun _ => orT) k y i lv).2.2.2 v' br' → Q (some (.int (bI v'))) h') → Wp (mX12_testOf d) Q 0 0 6 [some (.ref 82), some (.int (bI live)), some (.int (bI v)), none] [] h := by
    intro k
    induction k with
    | zero => intro Q h y i lv live br0 br v hk; omega
    | succ k ih =>
      intro Q h y i lv live br0 br v hk hi hl hok q hy hq
      unfold pCh at hok hq
      refine T_X12_testOf_6 hd q.1.1 _ _ (mt_pass t q hi (k := 5) rfl (by decide) (fun c h4 w4 => ⟨_, rfl, w4.1.1, ?_⟩) (fun c => ⟨_, rfl, q.1.1, ?_⟩))
      · rw [if_pos (by simp [c])] at hok hq
        have hin : i < n := by
          rcases Nat.lt_or_ge i n with z | z
          · exact z
          · have : i = n := by omega
            rw [this, t.2.1] at c
            omega
        obtain ⟨e1, e2, e3⟩ := ok (i + 1) lv (by omega) hl
        have c2 : (pBoth cs vs isV e rec (i + 1) lv).1 = true := by
          cases u : (pBoth cs vs isV e rec (i + 1) lv).1
          · rw [if_neg (by rw [u]; decide), u] at hok
            exact absurd hok (by decide)
          · rfl
        rw [if_pos c2] at hok hq
        obtain ⟨e4, e5, e6⟩ := e3 c2
        have go : ∀ (P : Int32 → ah_T → Prop), (∀ u h10 br1, ex b h0 h10 (pBoth cs vs isV e rec (i + 1) lv).2.1 br1 → Wp (mX12_testOf d) Q 0 0 6 [some (.ref 82), some (.int (bI live)), some (.int (bI (v || u))), none] [] h10 → P (bI u) h10) → Mt (mX12_bothOf (d - 1)) [.ref 82, .int (bI (live && !v))] h4 (ab_qi fun v12 h10 => Sh h10 ∧ P v12 h10) := by
          intro P hP
          refine hp _ h4 (i + 1) lv (live && !v) br (by omega) hl c2 w4 (fun u h10 br1 w10 r10 => ⟨_, rfl, w10.1.1, hP u h10 br1 w10 ?_⟩)
          exact ih Q h10 _ _ _ live br0 br1 (v || u) (by omega) e1 e6 hok w10 (et_or hy r10) hq
        (first | refine ⟨fun _ => ?_, fun n_ => absurd (show ¬ (1 : Int32) = 0 by decide) n_⟩ | refine ⟨fun n_ => absurd (show ¬ (1 : Int32) = 0 by decide) n_, fun _ => ?_⟩ | refine ⟨fun y_ => absurd y_ (show ¬ (1 : Int32) = 0 by decide), fun _ => ?_⟩ | refine ⟨fun _ => ?_, fun y_ => absurd y_ (show ¬ (1 : Int32) = 0 by decide)⟩)
        cases live
        · (first | refine ⟨fun _ => ?_, fun n_ => absurd (show bI false = 0 by rfl) n_⟩ | refine ⟨fun n_ => absurd (show bI false = 0 by rfl) n_, fun _ => ?_⟩ | refine ⟨fun y_ => absurd y_ (show bI false = 0 by rfl), fun _ => ?_⟩ | refine ⟨fun _ => ?_, fun y_ => absurd y_ (show bI false = 0 by rfl)⟩)
          refine go _ (fun u h10 br1 _ W => ?_)
          cases v <;> cases u <;> exact ⟨fun z => (by first | exact absurd rfl z | exact W), fun z => (by first | exact absurd z (by decide) | exact ⟨fun z2 => (by first | exact W | exact absurd z2 (by decide)), fun z2 => (by first | exact absurd rfl z2 | exact W)⟩)⟩
        · (first | refine ⟨fun _ => ?_, fun n_ => absurd (show ¬ bI true = 0 by decide) n_⟩ | refine ⟨fun n_ => absurd (show ¬ bI true = 0 by decide) n_, fun _ => ?_⟩ | refine ⟨fun y_ => absurd y_ (show ¬ bI true = 0 by decide), fun _ => ?_⟩ | refine ⟨fun _ => ?_, fun y_ => absurd y_ (show ¬ bI true = 0 by decide)⟩)
          cases v
          · (first | refine ⟨fun _ => ?_, fun n_ => absurd (show bI false = 0 by rfl) n_⟩ | refine ⟨fun n_ => absurd (show bI false = 0 by rfl) n_, fun _ => ?_⟩ | refine ⟨fun y_ => absurd y_ (show bI false = 0 by rfl), fun _ => ?_⟩ | refine ⟨fun _ => ?_, fun y_ => absurd y_ (show bI false = 0 by rfl)⟩)
            refine go _ (fun u h10 br1 _ W => ?_)
            cases u <;> exact ⟨fun z => (by first | exact absurd rfl z | exact W), fun z => (by first | exact absurd z (by decide) | exact ⟨fun z2 => (by first | exact W | exact absurd z2 (by decide)), fun z2 => (by first | exact absurd rfl z2 | exact W)⟩)⟩
          · (first | refine ⟨fun _ => ?_, fun n_ => absurd (show ¬ bI true = 0 by decide) n_⟩ | refine ⟨fun n_ => absurd (show ¬ bI true = 0 by decide) n_, fun _ => ?_⟩ | refine ⟨fun y_ => absurd y_ (show ¬ bI true = 0 by decide), fun _ => ?_⟩ | refine ⟨fun _ => ?_, fun y_ => absurd y_ (show ¬ bI true = 0 by decide)⟩)
            refine go _ (fun u h10 br1 _ W => ?_)
            cases u <;> exact ⟨fun z => (by first | exact absurd rfl z | exact W), fun z => (by first | exact absurd z (by decide) | exact ⟨fun z2 => (by first | exact W | exact absurd z2 (by decide)), fun z2 => (by first | exact absurd rfl z2 | exact W)⟩)⟩
      · rw [if_neg (by simp [c])] at hq
        (first | refine ⟨fun _ => ?_, fun n_ => absurd (show (0 : Int32) = 0 by rfl) n_⟩ | refine ⟨fun n_ => absurd (show (0 : Int32) = 0 by rfl) n_, fun _ => ?_⟩ | refine ⟨fun y_ => absurd y_ (show (0 : Int32) = 0 by rfl), fun _ => ?_⟩ | refine ⟨fun _ => ?_, fun y_ => absurd y_ (show (0 : Int32) = 0 by rfl)⟩)
        exact ⟨bI_b v, hq v h br q hy⟩
  intro Q h i lv live br hi hl hok q hq
  unfold pTest0 pChain at hok hq
  obtain ⟨e1, e2, e3⟩ := ok i lv hi hl
  have c2 : (pBoth cs vs isV e rec i lv).1 = true := by
    cases u : (pBoth cs vs isV e rec i lv).1
    · rw [if_neg (by rw [u]; decide), u] at hok
      exact absurd hok (by decide)
    · rfl
  rw [if_pos c2] at hok hq
  obtain ⟨e4, e5, e6⟩ := e3 c2
  exact T_X12_testOf hd q.1.1 _ (hp _ h i lv live br hi hl c2 q (fun v h1 br1 w1 r1 => ⟨_, rfl, w1.1.1, lS 401 Q h1 _ _ _ live br br1 v (by omega) e1 e6 hok w1 r1 hq⟩))
theorem ev_Test (t : Lx cs vs isV n b w h0) : ∀ (e d : Nat), 16 + 4 * e ≤ d → mEt cs vs isV n b w h0 (mX12_testOf d) (pTest cs vs isV e) := by
  intro e
  induction e with
  | zero =>
    intro d hd
    have hr : ∀ f, (none : Option (Nat → Nat → pR Tg)) = some f → lvO n f := fun f q => by cases q
    exact ev_test (rec := none) t (by omega) hr (ev_both t (by omega) hr (ev_plain t (by omega) (ev_positive t (by omega) (ev_Sum t 0 _ (by omega)) (fun f q => by cases q))))
  | succ e ih =>
    intro d hd
    have ok := pTest_ok (vs := vs) (isV := isV) t.2.1 t.2.2.1 e
    have hr : ∀ f, (some (pTest cs vs isV e)) = some f → lvO n f := fun f q => by cases q; exact ok
    have h1 := ih (d - 1 - 1 - 1 - 1) (by omega)
    exact ev_test (rec := some (pTest cs vs isV e)) t (by omega) hr (ev_both t (by omega) hr (ev_plain t (by omega) (ev_positive t (by omega) (ev_Sum t (e + 1) _ (by omega)) (fun f q => by cases q; exact ⟨ok, h1⟩))))
end EV
