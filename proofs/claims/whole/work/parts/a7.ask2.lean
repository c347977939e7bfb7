/-! ===== the class asks its law ===== -/
section AK
variable {h : ah_T}
def ansA (L : Option (List Cl)) (what : Nat) (w : Nat → Int) : Nat := if what = 0 then (if ansS L w = true then 1 else 0) else (ansN L what w).toNat
theorem ansA_some {cls : List Cl} {what : Nat} {w : Nat → Int} (hL : ∀ cl ∈ cls, clL cl) : ((ansA (some cls) what w : Nat) : Int) = ansV cls what w := by
  have := ansV_in cls what w
  unfold ansV at this ⊢
  unfold ansA
  by_cases c : what = 0
  · subst c
    rw [if_pos rfl] at this ⊢
    rw [if_pos rfl]
    have t0 := tell9_0 w cls 0 hL (.inl rfl)
    show ((if decide (tell9 0 w cls 0 = 1) = true then 1 else 0 : Nat) : Int) = tell9 0 w cls 0
    rcases t0 with z | z
    · rw [z]; rfl
    · rw [z]; rfl
  · rw [if_neg c] at this ⊢
    rw [if_neg c]
    show (((tell9 what w cls 1).toNat : Nat) : Int) = tell9 what w cls 1
    omega
theorem nO_pred (k : Nat) : nI k - 1 = nO k := by
  cases k with
  | zero => rfl
  | succ k => rw [nO_s]; exact nI_pred k
theorem nO_m1 (k : Nat) : nI k + (-1) = nO k := by
  cases k with
  | zero => rfl
  | succ k => rw [nO_s, ← nI_pred k]; exact (Int32.sub_eq_add_neg (nI (k + 1)) 1).symm
theorem take_s {cls : List Cl} {k : Nat} (hk : k < cls.length) : cls.take (k + 1) = cls.take k ++ [cls.getD k cl0] := by
  rw [List.take_succ_eq_append_getElem hk, List.getD_eq_getElem?_getD, List.getElem?_eq_getElem hk, Option.getD_some]
theorem tp_ak {h1 : ah_T} {L : Option (List Cl)} {wi mo g : Nat} (f : akF h h1) (e : ∀ j, ah_l h1 39 j = ah_l h 39 j) (tp : tpO L wi mo g h) : tpO L wi mo g h1 := by
  obtain ⟨l0, t1, t2, t3, t4, t5, t6⟩ := tp
  have e38 := f.2.2.1 38 (by decide) (by decide) (by decide) (by decide)
  refine ⟨?_, by rw [e38.1]; exact t1, by rw [e38.1]; exact t2, by rw [e38.2.1]; exact t3, t4, t5, fun p hp => ?_⟩
  · cases L with
    | none => exact (e38.2.2.1 3).trans l0
    | some cls =>
      obtain ⟨x, ex, tt, hL⟩ := l0
      exact ⟨x, by rw [e38.2.2.1]; exact ex, tx_ak f tt, hL⟩
  · obtain ⟨v, m1, m2, m3⟩ := t6 p hp
    refine ⟨v, by rw [e]; exact m1, m2, fun cls x eL ex what w hw wr q6 q7 q => ?_⟩
    subst eL
    rw [e38.2.2.1] at ex
    obtain ⟨x', ex', tt, hL⟩ := l0
    rw [ex] at ex'
    cases ex'
    have h123 := tt.1.1
    rw [(f.2.2.1 (x + 3) (by omega) (by omega) (by omega) (by omega)).1] at q
    exact m3 cls x rfl ex what w hw wr q6 q7 q
theorem tp_st {cls : List Cl} {wi mo g x what p a : Nat} {w : Nat → Int} (tp : tpO (some cls) wi mo g h) (ex : ah_r h 38 3 = some x) (hg : g < 2 ^ 30) (hw : what < 3) (wr : wRg w) (w6 : w 6 = wi) (w7 : w 7 = mo) (ea : (a : Int) = ansV cls what w) : tpO (some cls) wi mo g (ah_sl h 39 p (Int64.ofNat ((g * 33554432 + (kyv what (ah_i h (x + 3) what) w).toNat) * 16 + a))) := by
  obtain ⟨l0, t1, t2, t3, t4, t5, t6⟩ := tp
  obtain ⟨x', ex', tt, hL⟩ := l0
  rw [ex] at ex'
  cases ex'
  have h123 := tt.1.1
  have ce : ∀ b, b ≠ 39 → eqc h (ah_sl h 39 p (Int64.ofNat ((g * 33554432 + (kyv what (ah_i h (x + 3) what) w).toNat) * 16 + a))) b := fun b n => eqc_sl eqc_rfl n
  have e38 := ce 38 (by decide)
  have k1 := kyv_in (u := ah_i h (x + 3) what) hw wr
  have a9 := ansV_in cls what w
  refine ⟨⟨x, by rw [e38.2.2.1]; exact ex, tx_fr (fun i hi => ce _ (by omega)) (Nat.le_of_eq (ah_x_sl ..).symm) tt, hL⟩, by rw [e38.1]; exact t1, by rw [e38.1]; exact t2, by rw [e38.2.1]; exact t3, t4, t5, fun p' hp => ?_⟩
  rw [ah_l_sl]
  by_cases z : p' = p
  · rw [if_pos ⟨rfl, z⟩]
    refine ⟨_, rfl, by omega, fun cls' y eL ey what' w' hw' wr' q6 q7 q => ?_⟩
    cases eL
    rw [e38.2.2.1, ex] at ey
    cases ey
    rw [(ce (x + 3) (by omega)).1] at q
    have k2 := kyv_in (u := ah_i h (x + 3) what') hw' wr'
    have ek : kyv what (ah_i h (x + 3) what) w = kyv what' (ah_i h (x + 3) what') w' := by omega
    obtain ⟨v1, v2⟩ := kyv_inj wr wr' ek
    subst v1
    have hv := v2 rfl
    have : ansV cls what w = ansV cls what w' := by
      unfold ansV
      refine ans_dep (tx_dep tt what) hL (fun k hk b => ?_) _
      rcases (by omega : k < 6 ∨ k = 6 ∨ k = 7) with y | y | y
      · exact hv k y b
      · subst y; rw [w6, q6]
      · subst y; rw [w7, q7]
    rw [← this, ← ea]
    omega
  · rw [if_neg (fun y => z y.2)]
    obtain ⟨v, m1, m2, m3⟩ := t6 p' hp
    refine ⟨v, m1, m2, fun cls' y eL ey what' w' hw' wr' q6 q7 q => ?_⟩
    cases eL
    rw [e38.2.2.1, ex] at ey
    cases ey
    rw [(ce (x + 3) (by omega)).1] at q
    exact m3 cls x rfl ex what' w' hw' wr' q6 q7 q
theorem c9_of {x : Int32} {v : Int} (e : x.toInt = v) : (if 0 < (if x < 9 then x else 9) then (if x < 9 then x else 9) else 0 : Int32) = nI (clamp9 v).toNat := by
  have i9 : x < 9 ↔ v < 9 := by rw [Int32.lt_iff_toInt_lt, e]; exact Iff.rfl
  have i0 : (0 : Int32) < x ↔ 0 < v := by rw [Int32.lt_iff_toInt_lt, e]; exact Iff.rfl
  unfold clamp9
  by_cases c : v < 9
  · rw [if_pos (i9.mpr c)]
    by_cases c2 : 0 < v
    · rw [if_pos (i0.mpr c2), if_neg (by omega), if_neg (by omega)]
      exact nN_of e (by omega)
    · rw [if_neg (fun y => c2 (i0.mp y))]
      by_cases c3 : v < 0
      · rw [if_pos c3]; rfl
      · rw [if_neg c3, if_neg (by omega), show v = 0 by omega]; rfl
  · rw [if_neg (fun y => c (i9.mp y)), if_pos (by decide), if_neg (by omega)]
    by_cases c3 : 9 < v
    · rw [if_pos c3]; rfl
    · rw [if_neg c3, show v = 9 by omega]; rfl
theorem c_ask {Q : Option Value → ah_T → Prop} (hs : Sh h) {L : Option (List Cl)} {wi mo g what : Nat} {w : Nat → Int} {x1 x2 x3 x4 x5 x6 x7 : Int32} (tp : tpO L wi mo g h) (hg : g < 2 ^ 30) (hB : wB h) (e1 : x1 = nI what) (hw : what < 3) (e2 : x2.toInt = w 0) (e3 : x3.toInt = w 1) (e4 : x4.toInt = w 2) (e5 : x5.toInt = w 3) (e6 : x6.toInt = w 4) (e7 : x7.toInt = w 5) (w6 : w 6 = wi) (w7 : w 7 = mo) (wr : wRg w)
    (hq : ∀ h', akF h h' → tpO L wi mo g h' → Q (some (.int (nI (ansA L what w)))) h') : Mt mX8_ask [.ref 38, .int x1, .int x2, .int x3, .int x4, .int x5, .int x6, .int x7] h Q := by
  subst e1
  obtain ⟨l0, t1, t2, t3, t4, t5, t6⟩ := tp
  refine T_X8_ask hs _ _ _ _ _ _ _ ⟨fun z => ?_, fun x z => ?_⟩
  · cases L with
    | some cls =>
      obtain ⟨x, ex, _⟩ := l0
      rw [z] at ex; cases ex
    | none =>
      have fin : ∀ b : Bool, (b = true ↔ ansA none what w = 1) → Q (some (.int (if b = true then 1 else 0))) h := by
        intro b hb
        have := hq h (akF_r hs) ⟨l0, t1, t2, t3, t4, t5, t6⟩
        cases b
        · have e : ansA none what w = 0 := by
            have h1 : ¬ ansA none what w = 1 := fun y => absurd (hb.mpr y) (by decide)
            unfold ansA at h1 ⊢
            by_cases c : what = 0
            · rw [if_pos c] at h1 ⊢
              by_cases c2 : ansS none w = true
              · rw [if_pos c2] at h1; exact absurd rfl h1
              · rw [if_neg c2]
            · rw [if_neg c] at h1; exact absurd rfl h1
          rw [e] at this
          exact this
        · rw [hb.mp rfl] at this
          exact this
      by_cases c : what = 0
      · subst c
        (first | refine ⟨fun _ => ?_, fun n_ => absurd (show (nI 0 : Int32) = 0 by rfl) n_⟩ | refine ⟨fun n_ => absurd (show (nI 0 : Int32) = 0 by rfl) n_, fun _ => ?_⟩ | refine ⟨fun y_ => absurd y_ (show (nI 0 : Int32) = 0 by rfl), fun _ => ?_⟩ | refine ⟨fun _ => ?_, fun y_ => absurd y_ (show (nI 0 : Int32) = 0 by rfl)⟩)
        have en : ansA none 0 w = if decide (w 1 = w 2 ∧ (w 3 = 0 ∨ w 3 = 1)) = true then 1 else 0 := rfl
        rw [en] at fin
        have i34 : x3 = x4 ↔ w 1 = w 2 := by rw [← Int32.toInt_inj, e3, e4]
        have i50 : x5 = 0 ↔ w 3 = 0 := by rw [← Int32.toInt_inj, e5]; exact Iff.rfl
        have i51 : x5 = 1 ↔ w 3 = 1 := by rw [← Int32.toInt_inj, e5]; exact Iff.rfl
        have y1 : (w 1 = w 2 ∧ (w 3 = 0 ∨ w 3 = 1)) → Q (some (.int 1)) h := fun y => fin true (by rw [decide_eq_true y]; decide)
        have y0 : ¬ (w 1 = w 2 ∧ (w 3 = 0 ∨ w 3 = 1)) → Q (some (.int 0)) h := fun y => fin false (by rw [decide_eq_false y]; decide)
        refine ⟨fun z1 => T_X8_ask_32 hs (y0 (fun y => z1 (i34.mpr y.1))), fun z1 => ⟨fun z2 => T_X8_ask_28 hs (y1 ⟨i34.mp z1, .inl (i50.mp z2)⟩), fun z2 => ⟨fun z3 => T_X8_ask_32 hs (y0 (fun y => y.2.elim (fun a => z2 (i50.mpr a)) (fun a => z3 (i51.mpr a)))), fun z3 => T_X8_ask_28 hs (y1 ⟨i34.mp z1, .inr (i51.mp z3)⟩)⟩⟩⟩
      · (first | refine ⟨fun _ => ?_, fun n_ => absurd (show ¬ nI what = 0 by rw [n_0, nI_eq (by omega) (by omega)]; exact c) n_⟩ | refine ⟨fun n_ => absurd (show ¬ nI what = 0 by rw [n_0, nI_eq (by omega) (by omega)]; exact c) n_, fun _ => ?_⟩ | refine ⟨fun y_ => absurd y_ (show ¬ nI what = 0 by rw [n_0, nI_eq (by omega) (by omega)]; exact c), fun _ => ?_⟩ | refine ⟨fun _ => ?_, fun y_ => absurd y_ (show ¬ nI what = 0 by rw [n_0, nI_eq (by omega) (by omega)]; exact c)⟩)
        exact T_X8_ask_28 hs (fin true (by unfold ansA; rw [if_neg c]; exact ⟨fun _ => rfl, fun _ => rfl⟩))
  · cases L with
    | none =>
      have l0' : ah_r h 38 3 = none := l0
      rw [l0'] at z; cases z
    | some cls =>
      obtain ⟨y, ex, tt, hL⟩ := l0
      rw [ex] at z
      cases z
      refine ⟨tt.1.2.2.1, ?_⟩
      intro h1 q1 h2 q2 h3 q3 h4 q4 h5 q5 h6 q6 h7 q7 h8 q8
      have s8 : (Sh h8 ∧ ah_x h8 = ah_x h ∧ (∀ a, a ≠ 27 → eqc h h8 a) ∧ (wB h → wB h8)) ∧ (∀ k, k < 8 → (ah_i h8 27 k).toInt = w k) ∧ ∀ k, 8 ≤ k → ah_i h8 27 k = ah_i h 27 k := by
        have i4 : ah_i h6 38 4 = nI wi := by subst q6 q5 q4 q3 q2 q1; simp only [ah_i_si]; rw [if_neg (by omega), if_neg (by omega), if_neg (by omega), if_neg (by omega), if_neg (by omega), if_neg (by omega)]; exact t1
        have i5 : ah_i h7 38 5 = nI mo := by subst q7 q6 q5 q4 q3 q2 q1; simp only [ah_i_si]; rw [if_neg (by omega), if_neg (by omega), if_neg (by omega), if_neg (by omega), if_neg (by omega), if_neg (by omega), if_neg (by omega)]; exact t2
        have iw : ∀ k, ah_i h8 27 k = if k = 7 then nI mo else if k = 6 then nI wi else if k = 5 then x7 else if k = 4 then x6 else if k = 3 then x5 else if k = 2 then x4 else if k = 1 then x3 else if k = 0 then x2 else ah_i h 27 k := by
          intro k
          rw [q8, ah_i_si, i5, q7, ah_i_si, i4, q6, ah_i_si, q5, ah_i_si, q4, ah_i_si, q3, ah_i_si, q2, ah_i_si, q1, ah_i_si]
          simp only [true_and]
          rfl
        have wi_ : ∀ k, k < 8 → (ah_i h8 27 k).toInt = w k := by
          intro k hk
          rw [iw]
          rcases (by omega : k = 0 ∨ k = 1 ∨ k = 2 ∨ k = 3 ∨ k = 4 ∨ k = 5 ∨ k = 6 ∨ k = 7) with y | y | y | y | y | y | y | y <;> subst y
          · exact e2
          · exact e3
          · exact e4
          · exact e5
          · exact e6
          · exact e7
          · rw [w6]; exact nI_toInt (by omega)
          · rw [w7]; exact nI_toInt (by omega)
        have wh : ∀ k, 8 ≤ k → ah_i h8 27 k = ah_i h 27 k := by
          intro k hk
          rw [iw, if_neg (by omega), if_neg (by omega), if_neg (by omega), if_neg (by omega), if_neg (by omega), if_neg (by omega), if_neg (by omega), if_neg (by omega)]
        refine ⟨⟨?_, ?_, ?_, ?_⟩, wi_, wh⟩
        · rw [q8, q7, q6, q5, q4, q3, q2, q1]
          exact sh_si (sh_si (sh_si (sh_si (sh_si (sh_si (sh_si (sh_si hs)))))))
        · rw [q8, q7, q6, q5, q4, q3, q2, q1]
          simp only [ah_x_si]
        · intro a n2
          rw [q8, q7, q6, q5, q4, q3, q2, q1]
          exact eqc_si (eqc_si (eqc_si (eqc_si (eqc_si (eqc_si (eqc_si (eqc_si eqc_rfl n2) n2) n2) n2) n2) n2) n2) n2
        · intro hb k hk
          obtain ⟨r0, r1, r2, r3, r4, r5⟩ := wr
          by_cases z : k < 8
          · rw [wi_ k z]
            rcases (by omega : k = 0 ∨ k = 1 ∨ k = 2 ∨ k = 3 ∨ k = 4 ∨ k = 5 ∨ k = 6 ∨ k = 7) with y | y | y | y | y | y | y | y <;> subst y <;> omega
          · rw [wh k (by omega)]
            exact hb k hk
      clear q1 q2 q3 q4 q5 q6 q7 q8
      clear h1 h2 h3 h4 h5 h6 h7
      obtain ⟨⟨sh8, x8, c8, b8⟩, ww, wh⟩ := s8
      have f8 : akF h h8 := ⟨sh8, x8, fun a _ n2 _ _ => c8 a n2, b8⟩
      have l8 := (c8 39 (by decide)).2.1
      have ex8 : ah_r h8 38 3 = some x := by rw [(c8 38 (by decide)).2.2.1]; exact ex
      have tt8 := tx_ak f8 tt
      have tp8 : tpO (some cls) wi mo g h8 := tp_ak f8 l8 ⟨⟨x, ex, tt, hL⟩, t1, t2, t3, t4, t5, t6⟩
      refine c_keyOf sh8 rfl hw ex8 tt8 ww wr ⟨_, rfl, sh8, ?_⟩
      have h123 := tt.1.1
      have kin := kyv_in (u := ah_i h8 (x + 3) what) hw wr
      obtain ⟨KY, eKY⟩ : ∃ KY, KY = (kyv what (ah_i h8 (x + 3) what) w).toNat := ⟨_, rfl⟩
      rw [← eKY]
      have hKY : KY < 33554432 := by omega
      obtain ⟨p, hp, ep⟩ := sh20 (nI KY * (-1640531535))
      have n39 : ∀ {g : ah_T}, Sh g → ah_n g 39 = 4096 := fun hs => sh_n hs 39 4096 (by decide) (by decide) rfl
      have g8 : (ah_l h8 38 7).toInt = g := tp8.2.2.2.1
      have vp : vp_in (nI p) 4096 := (vp_nI (by omega)).mpr hp
      obtain ⟨e, m1, m2, m3⟩ := tp8.2.2.2.2.2.2 p hp
      have m3' := m3 cls x rfl ex8 what w hw wr w6 w7
      rw [← eKY] at m3'
      rw [ep, n39 sh8, nI_clamp (show p < 2 ^ 31 by omega), l_q25 g8 (by omega) hKY, m1, l_s4 (by omega), lg_0, loN_eq (by omega) (by omega), l_15]
      have a9 := ansV_in cls what w
      have aa := ansA_some (what := what) (w := w) hL
      refine ⟨vp, fun z => ?_, fun z => ⟨vp, ?_⟩⟩
      · clear m3 m3' m1 m2 ep
        obtain ⟨d0, ed⟩ : ∃ d0 : Nat, d0 = if what = 0 then 0 else 1 := ⟨_, rfl⟩
        have hd1 : d0 ≤ 1 := by rw [ed]; split <;> omega
        have eV : ansV cls what w = tell9 what w cls (d0 : Int) := by
          unfold ansV
          rw [ed]
          by_cases c : what = 0
          · rw [if_pos c, if_pos c]; rfl
          · rw [if_neg c, if_neg c]; rfl
        have fin : ∀ (hh : ah_T) (a : Nat), akF h8 hh → (∀ j, ah_l hh 39 j = ah_l h8 39 j) → (a : Int) = ansV cls what w → Wp mX8_ask Q 0 0 303 [some (.ref 38), none, none, none, none, none, none, none, none, none, some (.int (nI p)), some (.long (Int64.ofNat (g * 33554432 + KY))), none, some (.int (nI a)), none, none, none] [] hh := by
          intro hh a fh el ea
          refine T_X8_ask_303 fh.1 _ _ _ ?_
          rw [nI_clamp (show p < 2 ^ 31 by omega), n39 fh.1, l_q4 (by omega) (by omega)]
          refine ⟨vp, ?_⟩
          rintro h79 rfl
          have exh : ah_r hh 38 3 = some x := by rw [(fh.2.2.1 38 (by decide) (by decide) (by decide) (by decide)).2.2.1]; exact ex8
          have eu : ah_i hh (x + 3) what = ah_i h8 (x + 3) what := (fh.2.2.1 (x + 3) (by omega) (by omega) (by omega) (by omega)).1 _
          have := tp_st (p := p) (a := a) (tp_ak fh el tp8) exh hg hw wr w6 w7 ea
          rw [eu, ← eKY] at this
          rw [show a = ansA (some cls) what w by omega]
          rw [show a = ansA (some cls) what w by omega] at this
          have ft := akF_t f8 fh
          exact hq _ ⟨sh_sl ft.1, by rw [ah_x_sl]; exact ft.2.1, fun b n1 n2 n3 n4 => eqc_sl (ft.2.2.1 b n1 n2 n3 n4) n4, fun y => wB_of (eqc_sl eqc_rfl (by decide)).1 (ft.2.2.2 y)⟩ this
        obtain ⟨W, eW⟩ : ∃ W : Nat → Int, W = fun k => (ah_i h8 27 k).toInt := ⟨_, rfl⟩
        have hW : ∀ k, k < 8 → W k = w k := fun k hk => by rw [eW]; exact ww k hk
        have wb8 := b8 hB
        obtain ⟨⟨_, _, _, _, _, _⟩, v7, v8, v9, v10, v11, v12, v13, cd, q, v14, v15, v16, v17⟩ := tt8
        have tt8 := tx_ak f8 tt
        have fr1 : ∀ {a b : ah_T}, mfr a b → akF h8 a → (∀ j, ah_l a 39 j = ah_l h8 39 j) → (∀ j, ah_i a 27 j = ah_i h8 27 j) → akF h8 b ∧ (∀ j, ah_l b 39 j = ah_l h8 39 j) ∧ ∀ j, ah_i b 27 j = ah_i h8 27 j := by
          intro a b m y1 y2 y3
          exact ⟨akF_t y1 (akF_m m), fun j => by rw [(m.2.2.1 39 (by decide) (by decide)).2.1]; exact y2 j, fun j => by rw [(m.2.2.1 27 (by decide) (by decide)).1]; exact y3 j⟩
        have lp : ∀ k, k ≤ cls.length → ∀ hh : ah_T, akF h8 hh → (∀ j, ah_l hh 39 j = ah_l h8 39 j) → (∀ j, ah_i hh 27 j = ah_i h8 27 j) → ansV cls what w = tell9 what w (cls.take k) (d0 : Int) → Wp mX8_ask Q 0 0 174 [some (.ref 38), some (.int (nI what)), none, none, none, none, none, none, none, none, some (.int (nI p)), some (.long (Int64.ofNat (g * 33554432 + KY))), none, some (.int (nI d0)), some (.int (nO k)), none, none] [] hh := by
          intro k
          induction k with
          | zero =>
            intro _ hh y1 y2 y3 eT
            refine T_X8_ask_174 y1.1 _ _ _ _ _ ?_
            (first | refine ⟨fun _ => ?_, fun n_ => absurd (show nO 0 < 0 by decide) n_⟩ | refine ⟨fun n_ => absurd (show nO 0 < 0 by decide) n_, fun _ => ?_⟩ | refine ⟨fun y_ => absurd y_ (show nO 0 < 0 by decide), fun _ => ?_⟩ | refine ⟨fun _ => ?_, fun y_ => absurd y_ (show nO 0 < 0 by decide)⟩)
            exact fin hh d0 y1 y2 eT.symm
          | succ k ih =>
            intro hk hh y1 y2 y3 eT
            refine T_X8_ask_174 y1.1 _ _ _ _ _ ?_
            rw [nO_s]
            (first | refine ⟨fun _ => ?_, fun n_ => absurd (nI_pos (show k < 2 ^ 31 by omega)) n_⟩ | refine ⟨fun n_ => absurd (nI_pos (show k < 2 ^ 31 by omega)) n_, fun _ => ?_⟩ | refine ⟨fun y_ => absurd y_ (nI_pos (show k < 2 ^ 31 by omega)), fun _ => ?_⟩ | refine ⟨fun _ => ?_, fun y_ => absurd y_ (nI_pos (show k < 2 ^ 31 by omega))⟩)
            have hk' : k < cls.length := by omega
            obtain ⟨o1, o2, o3, o4, o5, o6, o7, o8⟩ := v17 k hk'
            rw [take_s hk', tell9_app] at eT
            have cm := hL (cls.getD k cl0) (by rw [List.getD_eq_getElem?_getD, List.getElem?_eq_getElem hk', Option.getD_some]; exact List.getElem_mem hk')
            generalize hcl : cls.getD k cl0 = cl at *
            obtain ⟨cm1, cm2, cm3, cm4⟩ := cm
            -- what any heap here has
            have gn : ∀ {a : ah_T}, akF h8 a → ah_r a 38 3 = some x ∧ tx a x false cls ∧ (∀ j, ah_i a (x + 2) j = ah_i h8 (x + 2) j) ∧ (∀ j, ah_i a (x + 1) j = ah_i h8 (x + 1) j) ∧ ah_n a (x + 1) = q := by
              intro a ya
              exact ⟨by rw [(ya.2.2.1 38 (by decide) (by decide) (by decide) (by decide)).2.2.1]; exact ex8, tx_ak ya tt8, (ya.2.2.1 (x + 2) (by omega) (by omega) (by omega) (by omega)).1, (ya.2.2.1 (x + 1) (by omega) (by omega) (by omega) (by omega)).1, by rw [(ya.2.2.1 (x + 1) (by omega) (by omega) (by omega) (by omega)).2.2.2.2]; exact v15⟩
            have wOf : ∀ {a : ah_T}, (∀ j, ah_i a 27 j = ah_i h8 27 j) → ∀ k, k < 13 → (ah_i a 27 k).toInt = W k ∧ -1000000000 ≤ W k ∧ W k ≤ 1000000000 := by
              intro a ya k hk
              rw [ya, eW]
              exact ⟨rfl, wb8 k hk⟩
            have nx : ∀ a : ah_T, akF h8 a → (∀ j, ah_l a 39 j = ah_l h8 39 j) → (∀ j, ah_i a 27 j = ah_i h8 27 j) → (¬ cl.1 = what ∨ hold cl w = none) → Wp mX8_ask Q 0 0 297 [some (.ref 38), some (.int (nI what)), none, none, none, none, none, none, none, none, some (.int (nI p)), some (.long (Int64.ofNat (g * 33554432 + KY))), none, some (.int (nI d0)), some (.int (nI k)), none, none] [] a := by
              intro a z1 z2 z3 z4
              refine T_X8_ask_297 z1.1 _ _ _ _ _ ?_
              rw [nO_m1]
              refine ih (by omega) a z1 z2 z3 ?_
              rw [eT]
              by_cases c : cl.1 = what
              · rw [if_pos c, z4.resolve_left (fun y => y c)]
              · rw [if_neg c]
            have hd : ∀ (a : ah_T) (x16 : Int32) (v : Int), akF h8 a → (∀ j, ah_l a 39 j = ah_l h8 39 j) → cl.1 = what → hold cl w = some v → x16.toInt = v → Wp mX8_ask Q 0 0 281 [some (.ref 38), none, none, none, none, none, none, none, none, none, some (.int (nI p)), some (.long (Int64.ofNat (g * 33554432 + KY))), none, none, none, none, some (.int x16)] [] a := by
              intro a x16 v z1 z2 z3 z4 z5
              refine T_X8_ask_281 z1.1 _ _ _ ?_
              rw [c9_of z5]
              refine fin a _ z1 z2 ?_
              rw [if_pos z3, z4] at eT
              have eT' : ansV cls what w = clamp9 v := eT
              have := clamp9_in v
              omega
            have ps : ∀ a : ah_T, akF h8 a → (∀ j, ah_l a 39 j = ah_l h8 39 j) → (∀ j, ah_i a 27 j = ah_i h8 27 j) → cl.1 = what → pass cl w = true → Wp mX8_ask Q 0 0 233 [some (.ref 38), some (.int (nI what)), none, none, none, none, none, none, none, none, some (.int (nI p)), some (.long (Int64.ofNat (g * 33554432 + KY))), none, some (.int (nI d0)), some (.int (nI k)), none, none] [] a := by
              intro a z1 z2 z3 z4 z5
              have hh_ : hold cl w = match cl.2.1 with | none => some 1 | some m => m w := by unfold hold; rw [if_pos z5]; cases cl.2.1 <;> rfl
              obtain ⟨g1, g2, g3, g4, g5⟩ := gn z1
              refine T_X8_ask_233 z1.1 _ _ _ _ _ ⟨fun c => ⟨fun y => ?_, fun b y => ?_⟩, fun c => ?_⟩
              · rw [g1] at y; cases y
              · rw [g1] at y
                cases y
                refine ⟨g2.1.2.2.1, _, g2.2.1, g2.1.2.2.2.1, fun y => ?_, fun b y => ?_⟩
                · rw [g1] at y; cases y
                rw [g1] at y
                cases y
                refine ⟨g2.1.2.2.1, c_part (j := 1) z1.1 g2 rfl rfl hk' (by omega) ⟨_, rfl, z1.1, g2.1.2.2.2.1, ?_⟩⟩
                rw [g3]
                have c0 : ¬ cl.1 = 0 := by
                  intro y
                  rw [← z4, y] at c
                  exact c rfl
                cases em : cl.2.1 with
                | none => exact absurd (cm2.mpr em) c0
                | some m =>
                  rw [em] at o3
                  refine c_runS z1.1 (by omega) g2.1.2.2.2.1 g5 v14 (fun j hj => by rw [g4]; exact v16 j hj) (wOf z3) o3 (fun y h9 m9 p1 p2 => ⟨_, rfl, m9.1, ?_⟩)
                  obtain ⟨u1, u2, u3⟩ := fr1 m9 z1 z2 z3
                  have eM : m W = m w := cm3 m em W w hW
                  rw [eM] at p1 p2
                  rw [em] at hh_
                  have hh2 : hold cl w = m w := hh_
                  (first | refine ⟨fun _ => ?_, fun n_ => absurd (c) n_⟩ | refine ⟨fun n_ => absurd (c) n_, fun _ => ?_⟩ | refine ⟨fun y_ => absurd y_ (c), fun _ => ?_⟩ | refine ⟨fun _ => ?_, fun y_ => absurd y_ (c)⟩)
                  cases e9 : m w with
                  | none =>
                    rw [(p2 e9).2]
                    (first | refine ⟨fun _ => ?_, fun n_ => absurd (show ¬ (1 : Int32) = 0 by decide) n_⟩ | refine ⟨fun n_ => absurd (show ¬ (1 : Int32) = 0 by decide) n_, fun _ => ?_⟩ | refine ⟨fun y_ => absurd y_ (show ¬ (1 : Int32) = 0 by decide), fun _ => ?_⟩ | refine ⟨fun _ => ?_, fun y_ => absurd y_ (show ¬ (1 : Int32) = 0 by decide)⟩)
                    exact nx h9 u1 u2 u3 (.inr (by rw [hh2, e9]))
                  | some z =>
                    rw [(p1 z e9).2]
                    (first | refine ⟨fun _ => ?_, fun n_ => absurd (show (0 : Int32) = 0 by rfl) n_⟩ | refine ⟨fun n_ => absurd (show (0 : Int32) = 0 by rfl) n_, fun _ => ?_⟩ | refine ⟨fun y_ => absurd y_ (show (0 : Int32) = 0 by rfl), fun _ => ?_⟩ | refine ⟨fun _ => ?_, fun y_ => absurd y_ (show (0 : Int32) = 0 by rfl)⟩)
                    exact hd h9 _ z u1 u2 z4 (by rw [hh2, e9]) (p1 z e9).1
              · (first | refine ⟨fun _ => ?_, fun n_ => absurd (c) n_⟩ | refine ⟨fun n_ => absurd (c) n_, fun _ => ?_⟩ | refine ⟨fun y_ => absurd y_ (c), fun _ => ?_⟩ | refine ⟨fun _ => ?_, fun y_ => absurd y_ (c)⟩)
                have c0 : cl.1 = 0 := by
                  rw [z4]
                  rw [n_0, nI_eq (by omega) (by omega)] at c
                  exact c
                refine hd a 1 1 z1 z2 z4 ?_ rfl
                rw [hh_, cm2.mp c0]
            obtain ⟨g1, g2, g3, g4, g5⟩ := gn y1
            refine ⟨fun y => ?_, fun b y => ?_⟩
            · rw [g1] at y; cases y
            rw [g1] at y
            cases y
            refine ⟨g2.1.2.2.1, c_part (j := 5) y1.1 g2 rfl rfl hk' (by omega) ⟨_, rfl, y1.1, fun y => ?_, fun b y => ?_⟩⟩
            · rw [g1] at y; cases y
            rw [g1] at y
            cases y
            refine ⟨g2.1.2.2.1, c_part (j := 0) y1.1 g2 rfl rfl hk' (by omega) ⟨_, rfl, y1.1, ?_⟩⟩
            rw [g3, g3, show ah_i h8 (x + 2) (6 * k + 0) = nI cl.1 from o1, nI_eq (by omega) (by omega)]
            refine ⟨fun c => nx hh y1 y2 y3 (.inl c), fun c => ?_⟩
            have o7' : cT1 (ah_i h8 (x + 2) (6 * k + 5)) cd q cl.2.2.2.2.2 := o7
            generalize ah_i h8 (x + 2) (6 * k + 5) = v59 at o7' ⊢
            cases et : cl.2.2.2.2.2 with
            | none =>
              rw [et] at o7'
              have o9 : v59 = -1 := o7'
              (first | refine ⟨fun _ => ?_, fun n_ => absurd (o9) n_⟩ | refine ⟨fun n_ => absurd (o9) n_, fun _ => ?_⟩ | refine ⟨fun y_ => absurd y_ (o9), fun _ => ?_⟩ | refine ⟨fun _ => ?_, fun y_ => absurd y_ (o9)⟩)
              exact ps hh y1 y2 y3 c (by unfold pass; rw [et])
            | some t =>
              rw [et] at o7'
              have nm : ¬ v59 = -1 := by
                obtain ⟨p1, p2, nd, a1, a2, a3, a4, a5⟩ := o7'
                have := a4.1
                rw [a1]
                exact nI_m1 (by omega)
              (first | refine ⟨fun _ => ?_, fun n_ => absurd (nm) n_⟩ | refine ⟨fun n_ => absurd (nm) n_, fun _ => ?_⟩ | refine ⟨fun y_ => absurd y_ (nm), fun _ => ?_⟩ | refine ⟨fun _ => ?_, fun y_ => absurd y_ (nm)⟩)
              refine ⟨fun y => ?_, fun b y => ?_⟩
              · rw [g1] at y; cases y
              rw [g1] at y
              cases y
              refine ⟨g2.1.2.2.1, _, g2.2.1, g2.1.2.2.2.1, ?_⟩
              refine c_runT y1.1 (by omega) g2.1.2.2.2.1 g5 v14 (fun j hj => by rw [g4]; exact v16 j hj) (wOf y3) o7' (fun y h9 m9 p1 => ⟨_, rfl, m9.1, ?_⟩)
              obtain ⟨u1, u2, u3⟩ := fr1 m9 y1 y2 y3
              have eM : t W = t w := cm4 t et W w hW
              rw [eM] at p1
              have ep : pass cl w = true ↔ t w = some true := by
                unfold pass
                rw [et]
                dsimp only
                cases t w with
                | none => exact ⟨fun y => absurd (show false = true from y) (by decide), fun y => (nomatch y)⟩
                | some b => exact ⟨fun y => congrArg some y, fun y => Option.some.inj y⟩
              refine ⟨fun z => ps h9 u1 u2 u3 c (ep.mpr ?_), fun z => nx h9 u1 u2 u3 (.inr ?_)⟩
              · by_cases zz : t w = some true
                · exact zz
                · exact absurd (p1.mpr zz) z
              · unfold hold
                rw [if_neg (fun yy => p1.mp z (ep.mp yy))]
        have tk : cls.take cls.length = cls := List.take_length
        have st : ∀ d : Int32, d = nI d0 → ((ah_r h8 38 3 = none → False) ∧ (∀ b47, ah_r h8 38 3 = some b47 → (ah_k h8 b47 = 9) ∧ Wp mX8_ask Q 0 0 174 [some (.ref 38), some (.int (nI what)), none, none, none, none, none, none, none, none, some (.int (nI p)), some (.long (Int64.ofNat (g * 33554432 + KY))), none, some (.int d), some (.int ((ah_i h8 b47 2) - 1)), none, none] [] h8)) := by
          intro d ed'
          subst ed'
          refine ⟨fun y => ?_, fun b y => ?_⟩
          · rw [ex8] at y; cases y
          rw [ex8] at y
          cases y
          refine ⟨tt8.1.2.2.1, ?_⟩
          rw [v10, nO_pred]
          exact lp cls.length (Nat.le_refl _) h8 (akF_r sh8) (fun _ => rfl) (fun _ => rfl) (by rw [tk, eV])
        by_cases c : what = 0
        · rw [if_pos c] at ed
          (first | refine ⟨fun _ => ?_, fun n_ => absurd (show nI what = 0 by rw [c]; rfl) n_⟩ | refine ⟨fun n_ => absurd (show nI what = 0 by rw [c]; rfl) n_, fun _ => ?_⟩ | refine ⟨fun y_ => absurd y_ (show nI what = 0 by rw [c]; rfl), fun _ => ?_⟩ | refine ⟨fun _ => ?_, fun y_ => absurd y_ (show nI what = 0 by rw [c]; rfl)⟩)
          exact st 0 (by rw [ed]; rfl)
        · rw [if_neg c] at ed
          (first | refine ⟨fun _ => ?_, fun n_ => absurd (show ¬ nI what = 0 by rw [n_0, nI_eq (by omega) (by omega)]; exact c) n_⟩ | refine ⟨fun n_ => absurd (show ¬ nI what = 0 by rw [n_0, nI_eq (by omega) (by omega)]; exact c) n_, fun _ => ?_⟩ | refine ⟨fun y_ => absurd y_ (show ¬ nI what = 0 by rw [n_0, nI_eq (by omega) (by omega)]; exact c), fun _ => ?_⟩ | refine ⟨fun _ => ?_, fun y_ => absurd y_ (show ¬ nI what = 0 by rw [n_0, nI_eq (by omega) (by omega)]; exact c)⟩)
          exact st 1 (by rw [ed]; rfl)
      · rw [show e % 16 = ansA (some cls) what w by have := m3' z; omega]
        exact hq h8 f8 tp8
end AK
