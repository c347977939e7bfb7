/-! ===== a rounds' text clause by clause; the model goes along a sum ===== -/
section PI
variable {cs vs : Nat → Nat} {isV : Nat → Bool} {n : Nat}
theorem pB_inv {α β : Type} {r : pR α} {d : β} {f : α → Nat → Nat → pR β} (h : (pB r d f).1 = true) : r.1 = true ∧ pB r d f = f r.2.2.2 r.2.1 r.2.2.1 := by
  cases e : r.1
  · rw [pB_f e] at h
    exact absurd (show false = true from h) (by decide)
  · exact ⟨rfl, pB_t e⟩
/-- the parts of a rounds' clause that was read -/
theorem pRnd_inv {i lv : Nat} (h : (pRnd cs vs isV i lv).1 = true) : ∃ v, (cs i = 21 ∧ v = 3 ∨ cs i = 22 ∧ v = 4) ∧ (pSum cs vs isV 8 (i + 1) lv).1 = true ∧ cs (pSum cs vs isV 8 (i + 1) lv).2.1 = 23 ∧ (pSum cs vs isV 8 ((pSum cs vs isV 8 (i + 1) lv).2.1 + 1) (pSum cs vs isV 8 (i + 1) lv).2.2.1).1 = true ∧
    (pEach cs vs isV (pSum cs vs isV 8 ((pSum cs vs isV 8 (i + 1) lv).2.1 + 1) (pSum cs vs isV 8 (i + 1) lv).2.2.1).2.1 (pSum cs vs isV 8 ((pSum cs vs isV 8 (i + 1) lv).2.1 + 1) (pSum cs vs isV 8 (i + 1) lv).2.2.1).2.2.1).1 = true ∧
    ∃ S1 S2 E T I, S1 = pSum cs vs isV 8 (i + 1) lv ∧ S2 = pSum cs vs isV 8 (S1.2.1 + 1) S1.2.2.1 ∧ E = pEach cs vs isV S2.2.1 S2.2.2.1 ∧ T = pTimes cs vs E.2.1 E.2.2.1 ∧ I = pIf cs vs isV T.2.1 T.2.2.1 ∧ T.1 = true ∧ I.1 = true ∧ pRnd cs vs isV i lv = (true, I.2.1, I.2.2.1, v, some S1.2.2.2, some S2.2.2.2, E.2.2.2, T.2.2.2, I.2.2.2) := by
  unfold pRnd at h ⊢
  obtain ⟨h1, e1⟩ := pB_inv h
  rw [e1] at h ⊢
  clear e1
  have hv : ∃ v, (cs i = 21 ∧ v = 3 ∨ cs i = 22 ∧ v = 4) ∧ pVerb cs i lv = (true, i + 1, lv, v) := by
    unfold pVerb at h1 ⊢
    by_cases c : cs i = 21
    · exact ⟨3, .inl ⟨c, rfl⟩, by rw [if_pos c]⟩
    · by_cases c2 : cs i = 22
      · exact ⟨4, .inr ⟨c2, rfl⟩, by rw [if_neg c, if_pos c2]⟩
      · rw [if_neg c, if_neg c2] at h1
        exact absurd (show false = true from h1) (by decide)
  obtain ⟨v, hv1, hv2⟩ := hv
  rw [hv2] at h ⊢
  dsimp only at h ⊢
  obtain ⟨h2, e2⟩ := pB_inv h
  rw [e2] at h ⊢
  clear e2
  obtain ⟨h3, e3⟩ := pB_inv h
  rw [e3] at h ⊢
  clear e3
  have hc : cs (pSum cs vs isV 8 (i + 1) lv).2.1 = 23 ∧ pTok cs 23 (pSum cs vs isV 8 (i + 1) lv).2.1 (pSum cs vs isV 8 (i + 1) lv).2.2.1 = (true, (pSum cs vs isV 8 (i + 1) lv).2.1 + 1, (pSum cs vs isV 8 (i + 1) lv).2.2.1, ()) := by
    unfold pTok at h3 ⊢
    by_cases c : cs (pSum cs vs isV 8 (i + 1) lv).2.1 = 23
    · exact ⟨c, by rw [if_pos c]⟩
    · rw [if_neg c] at h3
      exact absurd (show false = true from h3) (by decide)
  obtain ⟨hc1, hc2⟩ := hc
  rw [hc2] at h ⊢
  dsimp only at h ⊢
  obtain ⟨h4, e4⟩ := pB_inv h
  rw [e4] at h ⊢
  clear e4
  obtain ⟨h5, e5⟩ := pB_inv h
  rw [e5] at h ⊢
  clear e5
  obtain ⟨h6, e6⟩ := pB_inv h
  rw [e6] at h ⊢
  clear e6
  refine ⟨v, hv1, h2, hc1, h4, h5, _, _, _, _, _, rfl, rfl, rfl, rfl, rfl, h6, h, ?_⟩
  unfold pMp at h ⊢
  dsimp only at h ⊢
  rw [h]
theorem pTimes_bd {i lv : Nat} (h : (pTimes cs vs i lv).1 = true) : 1 ≤ (pTimes cs vs i lv).2.2.2 ∧ (pTimes cs vs i lv).2.2.2 ≤ 20 := by
  unfold pTimes at h ⊢
  by_cases c : cs i = 25
  · rw [if_pos c] at h ⊢
    by_cases c2 : cs (i + 1) = 50 ∧ 1 ≤ vs (i + 1) ∧ vs (i + 1) ≤ 20
    · rw [if_pos c2]; exact c2.2
    · rw [if_neg c2] at h; exact absurd (show false = true from h) (by decide)
  · rw [if_neg c]; exact ⟨Nat.le_refl 1, (by decide : (1 : Nat) ≤ 20)⟩
theorem pRnd_R {i lv : Nat} (h : (pRnd cs vs isV i lv).1 = true) : clR (pRnd cs vs isV i lv).2.2.2 := by
  obtain ⟨v, hv, _, _, _, _, S1, S2, E, T, I, e1, e2, e3, e4, e5, h6, h7, e⟩ := pRnd_inv h
  rw [e]
  subst e4
  have := pTimes_bd h6
  exact ⟨⟨_, rfl⟩, ⟨_, rfl⟩, this.1, this.2, by rcases hv with ⟨_, z⟩ | ⟨_, z⟩ <;> subst z; exact .inl rfl; exact .inr rfl⟩
/-- the clauses of a text -/
def pTl (cs : Nat → Nat) (one : Nat → Nat → pR Cl) : Nat → Nat → Nat → List Cl
  | 0, _, _ => []
  | k + 1, i, lv => (one i lv).2.2.2 :: (if cs (one i lv).2.1 = 159 then pTl cs one k ((one i lv).2.1 + 1) (one i lv).2.2.1 else [])
theorem pTx_inv {one : Nat → Nat → pR Cl} {k i lv : Nat} {acc : List Cl} (h : (pTx cs n one (k + 1) acc i lv).1 = true) : (one i lv).1 = true ∧ ((cs (one i lv).2.1 = 159 ∧ pTx cs n one (k + 1) acc i lv = pTx cs n one k (acc ++ [(one i lv).2.2.2]) ((one i lv).2.1 + 1) (one i lv).2.2.1) ∨ (cs (one i lv).2.1 ≠ 159 ∧ n ≤ (one i lv).2.1 ∧ pTx cs n one (k + 1) acc i lv = (true, (one i lv).2.1, (one i lv).2.2.1, acc ++ [(one i lv).2.2.2]))) := by
  have e : pTx cs n one (k + 1) acc i lv = pB (one i lv) acc fun c j l => if cs j = 159 then pTx cs n one k (acc ++ [c]) (j + 1) l else if n ≤ j then (true, j, l, acc ++ [c]) else (false, j, l, acc) := rfl
  rw [e] at h
  obtain ⟨h1, e1⟩ := pB_inv h
  rw [e]
  rw [e1] at h ⊢
  refine ⟨h1, ?_⟩
  by_cases c : cs (one i lv).2.1 = 159
  · exact .inl ⟨c, by rw [if_pos c]⟩
  · rw [if_neg c] at h
    by_cases c2 : n ≤ (one i lv).2.1
    · exact .inr ⟨c, c2, by rw [if_neg c, if_pos c2]⟩
    · rw [if_neg c2] at h
      exact absurd (show false = true from h) (by decide)
theorem pTx_0 {one : Nat → Nat → pR Cl} {i lv : Nat} {acc : List Cl} (h : (pTx cs n one 0 acc i lv).1 = true) : False := absurd (show false = true from h) (by decide)
theorem pTl_eq {one : Nat → Nat → pR Cl} : ∀ (k i lv : Nat) (acc : List Cl), (pTx cs n one k acc i lv).1 = true → (pTx cs n one k acc i lv).2.2.2 = acc ++ pTl cs one k i lv
  | 0, i, lv, acc, h => (pTx_0 h).elim
  | k + 1, i, lv, acc, h => by
    obtain ⟨h1, ⟨c, e⟩ | ⟨c, c2, e⟩⟩ := pTx_inv h
    · rw [e] at h ⊢
      rw [pTl_eq k _ _ _ h, pTl, if_pos c, List.append_assoc]
      rfl
    · rw [e, pTl, if_neg c]
theorem pTl_all {one : Nat → Nat → pR Cl} {P : Cl → Prop} (hP : ∀ i lv, (one i lv).1 = true → P (one i lv).2.2.2) : ∀ (k i lv : Nat) (acc : List Cl), (pTx cs n one k acc i lv).1 = true → ∀ c ∈ pTl cs one k i lv, P c
  | 0, i, lv, acc, h => (pTx_0 h).elim
  | k + 1, i, lv, acc, h => by
    obtain ⟨h1, ⟨c, e⟩ | ⟨c, c2, e⟩⟩ := pTx_inv h
    · rw [e] at h
      rw [pTl, if_pos c]
      intro x hx
      rcases List.mem_cons.mp hx with rfl | hx
      · exact hP i lv h1
      · exact pTl_all hP k _ _ _ h x hx
    · rw [pTl, if_neg c]
      intro x hx
      rcases List.mem_cons.mp hx with rfl | hx
      · exact hP i lv h1
      · cases hx
end PI
theorem nb1 : ∀ X : Bool, false = !X → true = (true && X) := by decide
theorem nb2 : ∀ X : Bool, true = !X → false = (true && X) := by decide
section MR
variable {cs vs : Nat → Nat} {isV : Nat → Bool} {n b : Nat} {w : Nat → Int} {h : ah_T}
/-- the model's cells while it goes along a sum -/
def nsF (h h' : ah_T) (k : Nat) : Prop := Sh h' ∧ ah_x h' = ah_x h ∧ (∀ a, a ≠ 82 → a ≠ 121 → eqc h h' a) ∧ (∀ j, j ≠ 20 → j ≠ 22 → j ≠ 72 → ah_i h' 82 j = ah_i h 82 j) ∧ ∀ j, j ≠ k → ah_l h' 121 j = ah_l h 121 j
theorem Lx_to {h' : ah_T} (t : Lx cs vs isV n b w h) (e21 : ah_i h' 82 21 = ah_i h 82 21) (e23 : ah_i h' 82 23 = ah_i h 82 23) (e84 : ∀ j, 162 ≤ j → ah_i h' 84 j = ah_i h 84 j) (e93 : ∀ j, ah_i h' 93 j = ah_i h 93 j) (e94 : ∀ j, ah_i h' 94 j = ah_i h 94 j) : Lx cs vs isV n b w h' := by
  obtain ⟨t1, t2, t3, t4, t5, t6, t7, t8, t9⟩ := t
  refine ⟨t1, t2, t3, t4, by rw [e21]; exact t5, fun k hk => by rw [e84 _ (by omega), e84 _ (by omega)]; exact t6 k hk, t7, t8, ?_⟩
  rw [e23]
  simp only [e84 242 (by omega), e93, e94]
  exact t9
theorem m_nextSum {Q : Option Value → ah_T → Prop} (t : Lx cs vs isV n b w h) (hs : Sh h) {i lv k : Nat} {live s : Bool} {x1 x2 : Int32} (hi : i ≤ n) (hl : lv ≤ 50) (hp : (pSum cs vs isV 8 i lv).1 = true) (e20 : ah_i h 82 20 = nI (b + i)) (e72 : live = true → ah_i h 82 72 = bI s) (hk : k < 3) (ex : x1 = nI k) (ey : x2 = bI live)
    (hq : ∀ h', nsF h h' k → ah_i h' 82 20 = nI (b + (pSum cs vs isV 8 i lv).2.1) → (live = true → ah_i h' 82 72 = bI (s && ((pSum cs vs isV 8 i lv).2.2.2 w).isSome) ∧ ∀ z, (pSum cs vs isV 8 i lv).2.2.2 w = some z → (ah_l h' 121 k).toInt = z ∧ -1000000000 ≤ z ∧ z ≤ 1000000000) → Q none h') : Mt mX12_nextSum [.ref 82, .int x1, .int x2] h Q := by
  subst ex ey
  refine T_X12_nextSum hs _ _ ?_
  rintro h1 rfl
  have t1 : Lx cs vs isV n b w (ah_si h 82 22 0) := Lx_to t (ah_i_sn (by omega)) (ah_i_sn (by omega)) (fun j _ => ah_i_sn (by omega)) (fun j => ah_i_sn (by omega)) (fun j => ah_i_sn (by omega))
  refine ev_Sum t1 8 60 (by omega) _ _ i lv live false hi hl hp ⟨fr82_rfl (sh_si hs), by rw [ah_i_sn (by omega)]; exact e20, ah_i_ss⟩ (fun v h4 br' x4 R => ⟨v, rfl, x4.1.1, ?_⟩)
  obtain ⟨⟨f1, f2, f3, f4⟩, f5, f6⟩ := x4
  rw [sh_n f1 121 3 (by decide) (by decide) rfl, nI_clamp (by omega)]
  refine ⟨(vp_nI (by omega)).mpr hk, ?_⟩
  rintro h8 rfl
  rw [ah_i_sl, ah_i_sl, f6, f4.1 72 (by decide), ah_i_sn (by omega)]
  have fin : ∀ z : Bool, (live = true → z = (s && ((pSum cs vs isV 8 i lv).2.2.2 w).isSome)) → Q none (ah_si (ah_sl h4 121 k v) 82 72 (bI z)) := by
    intro z hz
    refine hq _ ⟨sh_si (sh_sl f1), by rw [ah_x_si, ah_x_sl, f2, ah_x_si], fun a n1 n2 => eqc_si (eqc_sl (eqc_trans (eqc_si eqc_rfl n1) (f3 a n1)) n2) n1, fun j n1 n2 n3 => by rw [ah_i_sn (by omega), ah_i_sl, f4.1 j (by omega), ah_i_sn (by omega)], fun j hj => by rw [ah_l_si, ah_l_sl, if_neg (by omega), (f3 121 (by decide)).2.1, ah_l_si]⟩ (by rw [ah_i_sn (by omega), ah_i_sl]; exact f5) (fun hl => ⟨by rw [ah_i_ss, hz hl], fun y hy => ?_⟩)
    rw [ah_l_si, ah_l_sl, if_pos ⟨rfl, rfl⟩]
    exact ((R.2 hl rfl).2 y hy).2
  have br : live = true → br' = !((pSum cs vs isV 8 i lv).2.2.2 w).isSome := by
    intro hl
    obtain ⟨r1, r2⟩ := R.2 hl rfl
    cases e : (pSum cs vs isV 8 i lv).2.2.2 w with
    | none => rw [r1 e]; rfl
    | some y => rw [(r2 y e).1]; rfl
  by_cases c0 : ah_i h 82 72 = 0
  · (first | refine ⟨fun _ => ?_, fun n_ => absurd (c0) n_⟩ | refine ⟨fun n_ => absurd (c0) n_, fun _ => ?_⟩ | refine ⟨fun y_ => absurd y_ (c0), fun _ => ?_⟩ | refine ⟨fun _ => ?_, fun y_ => absurd y_ (c0)⟩)
    rintro h12 rfl
    refine fin false (fun hl => ?_)
    have := e72 hl
    rw [c0] at this
    cases s
    · rfl
    · exact absurd this (by decide)
  · (first | refine ⟨fun _ => ?_, fun n_ => absurd (c0) n_⟩ | refine ⟨fun n_ => absurd (c0) n_, fun _ => ?_⟩ | refine ⟨fun y_ => absurd y_ (c0), fun _ => ?_⟩ | refine ⟨fun _ => ?_, fun y_ => absurd y_ (c0)⟩)
    have st : live = true → s = true := fun hl => by
      have := e72 hl
      cases s
      · exact absurd this c0
      · rfl
    cases br'
    · (first | refine ⟨fun _ => ?_, fun n_ => absurd (show bI false = 0 by rfl) n_⟩ | refine ⟨fun n_ => absurd (show bI false = 0 by rfl) n_, fun _ => ?_⟩ | refine ⟨fun y_ => absurd y_ (show bI false = 0 by rfl), fun _ => ?_⟩ | refine ⟨fun _ => ?_, fun y_ => absurd y_ (show bI false = 0 by rfl)⟩)
      rintro h19 rfl
      exact fin true (fun hl => by rw [st hl]; exact nb1 _ (br hl))
    · (first | refine ⟨fun _ => ?_, fun n_ => absurd (show ¬ bI true = 0 by decide) n_⟩ | refine ⟨fun n_ => absurd (show ¬ bI true = 0 by decide) n_, fun _ => ?_⟩ | refine ⟨fun y_ => absurd y_ (show ¬ bI true = 0 by decide), fun _ => ?_⟩ | refine ⟨fun _ => ?_, fun y_ => absurd y_ (show ¬ bI true = 0 by decide)⟩)
      rintro h16 rfl
      exact fin false (fun hl => by rw [st hl]; exact nb2 _ (br hl))
end MR
