/-! ===== the model's evaluation: terms and sums ===== -/
section EV
variable {cs vs : Nat → Nat} {isV : Nat → Bool} {n b : Nat} {w : Nat → Int} {h0 h : ah_T}
theorem ev_op {live br0 br br1 br2 br3 z : Bool} {c : Nat} {y m : Mg} {v u r v3 : Int64} (Hy : evR w live br0 y v br) (Hm : evR w live br m u br1) (H2 : br2 = (br1 || (live && z)))
    (Hz : z = true → ∀ x1 x2, y w = some x1 → m w = some x2 → u.toInt = x2 → opM c y m w = none) (Hr : z = false → ∀ x1 x2, y w = some x1 → m w = some x2 → v.toInt = x1 → u.toInt = x2 → -1000000000 ≤ x1 → x1 ≤ 1000000000 → -1000000000 ≤ x2 → x2 ≤ 1000000000 → opM c y m w = bnd r.toInt)
    (B1 : ¬ (live = true ∧ br2 = false) → br3 = br2) (B2 : live = true → br2 = false → (bnd r.toInt = none → br3 = true) ∧ ∀ x, bnd r.toInt = some x → br3 = false ∧ v3.toInt = x ∧ -1000000000 ≤ x ∧ x ≤ 1000000000) : evR w live br0 (opM c y m) v3 br3 := by
  obtain ⟨y1, y2⟩ := Hy
  obtain ⟨m1, m2⟩ := Hm
  refine ⟨fun k => ?_, fun l1 l2 => ?_⟩
  · have e1 := y1 k
    subst e1
    have e2 := m1 k
    subst e2
    have e3 : br2 = br1 := by
      rw [H2]
      cases live
      · simp
      · have : br1 = true := by
          cases br1
          · exact absurd ⟨rfl, rfl⟩ k
          · rfl
        rw [this]
        rfl
    rw [B1 (by rw [e3]; exact k), e3]
  · subst l1 l2
    have nn : br1 = true → br3 = true := by
      intro e
      have : br2 = true := by rw [H2, e]; rfl
      rw [B1 (by rw [this]; exact fun q => absurd q.2 (by decide)), this]
    cases ey : y w with
    | none =>
      have e0 : opM c y m w = none := by unfold opM; rw [ey]
      have b := (y2 rfl rfl).1 ey
      have b1 := m1 (by rw [b]; exact fun q => absurd q.2 (by decide))
      rw [e0]
      exact ⟨fun _ => nn (by rw [b1, b]), fun x q => by cases q⟩
    | some x1 =>
      obtain ⟨b, ev, v1, v2⟩ := (y2 rfl rfl).2 x1 ey
      subst b
      cases em : m w with
      | none =>
        have e0 : opM c y m w = none := by unfold opM; rw [ey, em]
        have b1 := (m2 rfl rfl).1 em
        rw [e0]
        exact ⟨fun _ => nn b1, fun x q => by cases q⟩
      | some x2 =>
        obtain ⟨b1, eu, u1, u2⟩ := (m2 rfl rfl).2 x2 em
        subst b1
        cases z
        · have e2 : br2 = false := by rw [H2]; rfl
          rw [Hr rfl x1 x2 ey em ev eu v1 v2 u1 u2]
          exact B2 rfl e2
        · have e2 : br2 = true := by rw [H2]; rfl
          rw [Hz rfl x1 x2 ey em eu]
          exact ⟨fun _ => by rw [B1 (by rw [e2]; exact fun q => absurd q.2 (by decide)), e2], fun x q => by cases q⟩
theorem ev_term {d : Nat} {rec : Option (Nat → Nat → pR Mg)} (t : Lx cs vs isV n b w h0) (hd : 8 ≤ d) (hr : ∀ f, rec = some f → lvO n f) (hp : mEv cs vs isV n b w h0 (mX12_partOf (d - 1)) (pPart cs vs isV rec)) : mEv cs vs isV n b w h0 (mX12_termOf d) (pTerm cs vs isV rec) := by
  have ok := pPart_ok (vs := vs) t.2.1 t.2.2.1 hr
  have h400 := t.1
  have lS : ∀ (k : Nat) (Q : Option Value → ah_T → Prop) (h : ah_T) (y : Mg) (i lv : Nat) (live br0 br : Bool) (v : Int64), n - i < k → i ≤ n → lv ≤ 50 → (pCh cs (pPart cs vs isV rec) isMul opM k y i lv).1 = true → ex b h0 h i br → evR w live br0 y v br → (∀ v' h' br', ex b h0 h' (pCh cs (pPart cs vs isV rec) isMul opM k y i lv).2.1 br' → evR w live br0 (pCh cs (pPart cs vs isV rec) isMul opM k y i lv).2.2.2 v' br' → Q (some (.long v')) h') → Wp (mX12_termOf d) Q 0 0 6 [some (.ref 82), some (.int (bI live)), some (.long v), none, none, none, none] [] h := by
    intro k
    induction k with
    | zero => intro Q h y i lv live br0 br v hk; omega
    | succ k ih =>
      intro Q h y i lv live br0 br v hk hi hl hok q hy hq
      unfold pCh at hok hq
      obtain ⟨a1, a2⟩ := cdA t q hi
      have c4 := (t.2.2.2.2.2.2.1 i hi).1
      refine T_X12_termOf_6 hd q.1.1 _ _ ?_
      rw [a1, show f_X12_sign 42 = nI 142 from rfl, show f_X12_sign 47 = nI 147 from rfl, show f_X12_sign 37 = nI 137 from rfl]
      have go : isMul (cs i) = true → Wp (mX12_termOf d) Q 0 0 54 [some (.ref 82), some (.int (bI live)), some (.long v), none, none, none, none] [] h := by
        intro c
        rw [if_pos c] at hok hq
        have hin : i < n := by
          rcases Nat.lt_or_ge i n with z | z
          · exact z
          · have : i = n := by omega
            rw [this, t.2.1] at c
            exact absurd c (by decide)
        obtain ⟨e1, e2, e3⟩ := ok (i + 1) lv (by omega) hl
        have c2 : (pPart cs vs isV rec (i + 1) lv).1 = true := by
          cases u : (pPart cs vs isV rec (i + 1) lv).1
          · rw [if_neg (by rw [u]; decide), u] at hok
            exact absurd hok (by decide)
          · rfl
        rw [if_pos c2] at hok hq
        obtain ⟨e4, e5, e6⟩ := e3 c2
        have cm : cs i = 142 ∨ cs i = 147 ∨ cs i = 137 := by
          unfold isMul at c
          simp at c
          omega
        refine T_X12_termOf_54 hd q.1.1 _ _ ⟨a2, ?_⟩
        rw [a1, show f_X12_sign 42 = nI 142 from rfl]
        rintro h11 rfl
        refine hp _ _ (i + 1) lv live br (by omega) hl c2 (ex_go q) (fun u h14 br1 w14 r14 => ⟨_, rfl, w14.1.1, ?_⟩)
        have q14 : nI (cs i) = nI 142 ↔ cs i = 142 := nI_eq (by omega) (by omega)
        have q147 : nI (cs i) = nI 147 ↔ cs i = 147 := nI_eq (by omega) (by omega)
        -- behind the test for 0
        have l121 : ∀ (u' : Int64) (h20 : ah_T) (br2 z : Bool), ex b h0 h20 (pPart cs vs isV rec (i + 1) lv).2.1 br2 → br2 = (br1 || (live && z)) → (z = true → cs i ≠ 142 ∧ u.toInt = 0) → (z = false → u' = u ∧ (cs i ≠ 142 → u.toInt ≠ 0)) → (cs i ≠ 142 → u'.toInt ≠ 0) → Wp (mX12_termOf d) Q 0 0 121 [some (.ref 82), some (.int (bI live)), some (.long v), none, some (.int (nI (cs i))), some (.long u'), none] [] h20 := by
          intro u' h20 br2 z w20 hb2 hz hz2 hne
          refine T_X12_termOf_121 hd w20.1.1 _ _ _ _ ?_
          rw [show f_X12_sign 42 = nI 142 from rfl, show f_X12_sign 47 = nI 147 from rfl]
          have fin : ∀ r : Int64, (z = false → ∀ x1 x2, y w = some x1 → (pPart cs vs isV rec (i + 1) lv).2.2.2 w = some x2 → v.toInt = x1 → u.toInt = x2 → -1000000000 ≤ x1 → x1 ≤ 1000000000 → -1000000000 ≤ x2 → x2 ≤ 1000000000 → opM (cs i) y (pPart cs vs isV rec (i + 1) lv).2.2.2 w = bnd r.toInt) → Mt mX12_bounded [.ref 82, .long r, .int (bI live)] h20 (ab_ql fun v35 h33 => Sh h33 ∧ Wp (mX12_termOf d) Q 0 0 6 [some (.ref 82), some (.int (bI live)), some (.long v35), none, none, none, none] [] h33) := by
            intro r hr2
            refine mt_bounded w20 (fun v3 h33 br3 w33 B1 B2 => ⟨_, rfl, w33.1.1, ?_⟩)
            refine ih Q h33 _ _ _ live br0 br3 v3 (by omega) e1 e6 hok w33 ?_ hq
            refine ev_op hy r14 hb2 (fun hz1 x1 x2 ey em eu => ?_) hr2 B1 B2
            obtain ⟨k1, k2⟩ := hz hz1
            unfold opM
            rw [ey, em]
            dsimp only
            have : x2 = 0 := by omega
            rw [if_neg (by omega), if_neg (by omega), if_neg k1, if_pos this]
          refine ⟨fun k1 => ⟨fun k2 => ⟨?_, fin _ (fun zf x1 x2 ey em ev eu v1 v2 u1 u2 => ?_)⟩, fun k2 => ⟨?_, fin _ (fun zf x1 x2 ey em ev eu v1 v2 u1 u2 => ?_)⟩⟩, fun k1 => fin _ (fun zf x1 x2 ey em ev eu v1 v2 u1 u2 => ?_)⟩
          · intro k0
            exact hne (fun e => k1 (by rw [e])) (l_ne0.mp k0)
          · have n1 : cs i ≠ 142 := fun e => k1 (by rw [e])
            have n2 : cs i ≠ 147 := fun e => k2 (by rw [e])
            obtain ⟨g1, g2⟩ := hz2 zf
            subst g1
            unfold opM
            rw [ey, em]
            dsimp only
            rw [if_neg (by omega), if_neg (by omega), if_neg n1, if_neg (by rw [← eu]; exact g2 n1), if_neg n2, l_rem (by omega) (by omega) (by omega) (by omega), ev, eu]
          · intro k0
            exact hne (fun e => k1 (by rw [e])) (l_ne0.mp k0)
          · have n1 : cs i ≠ 142 := fun e => k1 (by rw [e])
            have n2 : cs i = 147 := q147.mp k2
            obtain ⟨g1, g2⟩ := hz2 zf
            subst g1
            unfold opM
            rw [ey, em]
            dsimp only
            rw [if_neg (by omega), if_neg (by omega), if_neg n1, if_neg (by rw [← eu]; exact g2 n1), if_pos n2, l_div (by omega) (by omega), ev, eu]
          · have n1 : cs i = 142 := q14.mp k1
            obtain ⟨g1, g2⟩ := hz2 zf
            subst g1
            unfold opM
            rw [ey, em]
            dsimp only
            rw [if_neg (by omega), if_neg (by omega), if_pos n1, l_mul (by omega) (by omega) (by omega) (by omega), ev, eu]
        have bo : br1 = (br1 || (live && false)) := by simp
        refine ⟨fun k1 => l121 u h14 br1 false w14 bo (fun z => absurd z (by decide)) (fun _ => ⟨rfl, fun z => absurd (q14.mp k1) z⟩) (fun z => absurd (q14.mp k1) z), fun k1 => ?_⟩
        have n1 : cs i ≠ 142 := fun e => k1 (by rw [e])
        rw [lg_cmp_eq]
        refine ⟨fun k0 => l121 u h14 br1 false w14 bo (fun z => absurd z (by decide)) (fun _ => ⟨rfl, fun _ e => k0 (l_ne0.mpr e)⟩) (fun _ e => k0 (l_ne0.mpr e)), fun k0 => ?_⟩
        have u0 : u.toInt = 0 := l_ne0.mp k0
        have one : (1 : Int64).toInt ≠ 0 := by decide
        rw [w14.2.2]
        refine ⟨fun kb => ?_, fun kb => ⟨fun kl => ?_, fun kl => ?_⟩⟩
        · have hb1 : br1 = true := by
            cases br1
            · exact absurd rfl kb
            · rfl
          rintro h20 rfl
          exact l121 1 _ true true (ex_br w14 true rfl) (by rw [hb1]; rfl) (fun _ => ⟨n1, u0⟩) (fun z => absurd z (by decide)) (fun _ => one)
        · have hb1 : br1 = false := by
            cases br1
            · rfl
            · exact absurd kb (by decide)
          have hl1 : live = false := by
            cases live
            · rfl
            · exact absurd kl (by decide)
          rintro h24 rfl
          exact l121 1 _ false true (ex_br w14 false rfl) (by rw [hb1, hl1]; rfl) (fun _ => ⟨n1, u0⟩) (fun z => absurd z (by decide)) (fun _ => one)
        · have hb1 : br1 = false := by
            cases br1
            · rfl
            · exact absurd kb (by decide)
          have hl1 : live = true := by
            cases live
            · exact absurd rfl kl
            · rfl
          rintro h27 rfl
          exact l121 1 _ true true (ex_br w14 true rfl) (by rw [hb1, hl1]; rfl) (fun _ => ⟨n1, u0⟩) (fun z => absurd z (by decide)) (fun _ => one)
      refine ⟨a2, fun k1 => go (by rw [(nI_eq (by omega) (by omega)).mp k1]; rfl), fun k1 => ⟨a2, fun k2 => go (by rw [(nI_eq (by omega) (by omega)).mp k2]; rfl), fun k2 => ⟨a2, fun k3 => ?_, fun k3 => go (by rw [(nI_eq (by omega) (by omega)).mp k3]; rfl)⟩⟩⟩
      have c' : ¬ isMul (cs i) = true := by
        unfold isMul
        simp
        exact ⟨⟨fun e => k1 (by rw [e]), fun e => k2 (by rw [e])⟩, fun e => k3 (by rw [e])⟩
      rw [if_neg c'] at hq
      exact hq v h br q hy
  intro Q h i lv live br hi hl hok q hq
  unfold pTerm pChain at hok hq
  obtain ⟨e1, e2, e3⟩ := ok i lv hi hl
  have c2 : (pPart cs vs isV rec i lv).1 = true := by
    cases u : (pPart cs vs isV rec i lv).1
    · rw [if_neg (by rw [u]; decide), u] at hok
      exact absurd hok (by decide)
    · rfl
  rw [if_pos c2] at hok hq
  obtain ⟨e4, e5, e6⟩ := e3 c2
  exact T_X12_termOf hd q.1.1 _ (hp _ h i lv live br hi hl c2 q (fun v h1 br1 w1 r1 => ⟨_, rfl, w1.1.1, lS 401 Q h1 _ _ _ live br br1 v (by omega) e1 e6 hok w1 r1 hq⟩))
end EV
