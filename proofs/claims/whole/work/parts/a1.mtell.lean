/-! ===== the model asks its law ===== -/
section MT
variable {cs vs : Nat → Nat} {n b : Nat} {w : Nat → Int} {h : ah_T}
abbrev isL : Nat → Bool := isVof false
/-- the model's cells while it asks -/
def tlF (h h' : ah_T) : Prop := Sh h' ∧ ah_x h' = ah_x h ∧ (∀ a, a ≠ 82 → eqc h h' a) ∧ ∀ j, j ≠ 20 → j ≠ 21 → j ≠ 22 → j ≠ 23 → ah_i h' 82 j = ah_i h 82 j
theorem tlF_r (hs : Sh h) : tlF h h := ⟨hs, rfl, fun _ _ => eqc_rfl, fun _ _ _ _ _ => rfl⟩
theorem tlF_t {h1 h2 : ah_T} (p : tlF h h1) (q : tlF h1 h2) : tlF h h2 := ⟨q.1, by rw [q.2.1, p.2.1], fun a n1 => eqc_trans (p.2.2.1 a n1) (q.2.2.1 a n1), fun j a1 a2 a3 a4 => by rw [q.2.2.2 j a1 a2 a3 a4, p.2.2.2 j a1 a2 a3 a4]⟩
theorem tlF_si {h1 : ah_T} {j : Nat} {x : Int32} (p : tlF h h1) (hj : 20 ≤ j ∧ j ≤ 23) : tlF h (ah_si h1 82 j x) := ⟨sh_si p.1, by rw [ah_x_si, p.2.1], fun a n1 => eqc_si (p.2.2.1 a n1) n1, fun k a1 a2 a3 a4 => by rw [ah_i_sn (by omega)]; exact p.2.2.2 k a1 a2 a3 a4⟩
theorem tlF_ex {h1 h2 : ah_T} (p : tlF h h1) (q : fr82 eP h1 h2) : tlF h h2 := ⟨q.1, by rw [q.2.1, p.2.1], fun a n1 => eqc_trans (p.2.2.1 a n1) (q.2.2.1 a n1), fun j a1 a2 a3 a4 => by rw [q.2.2.2.1 j (by omega), p.2.2.2 j a1 a2 a3 a4]⟩
theorem Lx_e {h1 h2 : ah_T} (t : Lx cs vs isL n b w h1) (q : fr82 eP h1 h2) : Lx cs vs isL n b w h2 := Lx_fr q t
def up9 (what : Nat) (w : Nat → Int) (c : Cl) (d : Int) : Int := if c.1 = what then (match hold c w with | none => d | some v => clamp9 v) else d
theorem m_tells_loop {Q : Option Value → ah_T → Prop} {h0 : ah_T} {hd : Nat} (hh : 1 ≤ hd ∧ hd ≤ 3) {R : Int}
    (hq : ∀ h', tlF h0 h' → Q (some (.int (nI R.toNat))) h') :
    ∀ (k i lv : Nat) (acc : List Cl) (d : Int) (v : Int64) (h : ah_T), (pTx cs n (pLaw cs vs isL) k acc i lv).1 = true → i ≤ n → lv ≤ 50 → tlF h0 h → Lx cs vs isL n b w h → ah_i h 82 20 = nI (b + i) → v.toInt = d → 0 ≤ d → d ≤ 9 → R = tell9 (hd - 1) w (pTl cs (pLaw cs vs isL) k i lv) d → Wp mX12_tells Q 0 0 64 [some (.ref 82), some (.int (nI hd)), none, some (.long v), none, none, none, none, none, none] [] h := by
  intro k
  induction k with
  | zero => intro i lv acc d v h hp; exact (pTx_0 hp).elim
  | succ k ih =>
    intro i lv acc d v h hp hi hl fh t e20 ev hd0 hd9 eR
    obtain ⟨p1, p2⟩ := pTx_inv hp
    have g2 := t.2.1
    have g1 := t.1
    have g3 := t.2.2.2.1
    have hV := isVof_0 false
    obtain ⟨o1, o2, o3⟩ := pLaw_ok (cs := cs) (vs := vs) (isV := isL) (n := n) g2 hV i lv hi hl
    obtain ⟨H, I, e1, e2, h1, h2, e⟩ := pLaw_inv p1
    obtain ⟨q1, q2, q3⟩ := pHd_ok (cs := cs) (vs := vs) (isV := isL) (n := n) g2 hV i lv hi hl
    rw [← e1] at q1 q2 q3
    obtain ⟨r1, r2, r3⟩ := pIf_ok (cs := cs) (vs := vs) (isV := isL) (n := n) g2 hV H.2.1 H.2.2.1 q1 (q3 h1).2
    rw [← e2] at r1 r2 r3
    have hcs : (cs i = 1 ∧ H = (true, i + 1, lv, 0, none)) ∨ ((cs i = 2 ∨ cs i = 3) ∧ H = pMp (fun m => (cs i - 1, some m)) (pSum cs vs isL 8 (i + 1) lv)) := by
      rw [e1] at h1 ⊢
      unfold pHd at h1 ⊢
      by_cases c : cs i = 2 ∨ cs i = 3
      · exact .inr ⟨c, by rw [if_pos c]⟩
      · by_cases c2 : cs i = 1
        · exact .inl ⟨c2, by rw [if_neg c, if_pos c2]⟩
        · rw [if_neg c, if_neg c2] at h1
          exact absurd (show false = true from h1) (by decide)
    have hin : i < n := lt_n g2 hi (by omega)
    have ecl : (pLaw cs vs isL i lv).2.2.2 = (H.2.2.2.1, H.2.2.2.2, none, none, 1, I.2.2.2) := by rw [e]
    have ej : (pLaw cs vs isL i lv).2.1 = I.2.1 := by rw [e]
    have el : (pLaw cs vs isL i lv).2.2.1 = I.2.2.1 := by rw [e]
    -- the next clause
    have nxt : ∀ (g : ah_T) (u : Int64), tlF h0 g → Lx cs vs isL n b w g → ah_i g 82 20 = nI (b + I.2.1) → u.toInt = up9 (hd - 1) w (H.2.2.2.1, H.2.2.2.2, none, none, 1, I.2.2.2) d → Wp mX12_tells Q 0 0 203 [some (.ref 82), some (.int (nI hd)), none, some (.long u), none, none, none, none, none, none] [] g := by
      intro g u fg tg g20 eu
      refine T_X12_tells_203 fg.1 _ _ ?_
      rw [g20, nI_1]
      rintro h53 rfl
      have t53 := Lx_si (j := 20) (x := nI (b + I.2.1 + 1)) tg (by decide) (by decide)
      have f53 := tlF_si (j := 20) (x := nI (b + I.2.1 + 1)) fg (by omega)
      have b1 : 0 ≤ up9 (hd - 1) w (H.2.2.2.1, H.2.2.2.2, none, none, 1, I.2.2.2) d ∧ up9 (hd - 1) w (H.2.2.2.1, H.2.2.2.2, none, none, 1, I.2.2.2) d ≤ 9 := by
        have := tell9_in (hd - 1) w [((H.2.2.2.1, H.2.2.2.2, none, none, 1, I.2.2.2) : Cl)] d hd0 hd9
        exact this
      have eR2 : R = tell9 (hd - 1) w (if cs I.2.1 = 159 then pTl cs (pLaw cs vs isL) k (I.2.1 + 1) I.2.2.1 else []) (up9 (hd - 1) w (H.2.2.2.1, H.2.2.2.2, none, none, 1, I.2.2.2) d) := by
        rw [eR, pTl, ecl, ej, el]
        rfl
      rcases p2 with ⟨c, e'⟩ | ⟨c, c2, e'⟩
      · rw [e'] at hp
        rw [ej, el] at hp
        rw [ej] at c
        rw [if_pos c] at eR2
        exact ih (I.2.1 + 1) I.2.2.1 _ _ u _ hp (lt_n g2 r1 (by omega)) (r3 h2).2 f53 t53 (by rw [ah_i_ss]; rfl) eu b1.1 b1.2 eR2
      · rw [ej] at c c2
        rw [if_neg c] at eR2
        refine T_X12_tells_64 f53.1 _ _ ?_
        rw [ah_i_ss, ah_i_sn (by omega), tg.2.2.2.2.1]
        (first | refine ⟨fun _ => ?_, fun n_ => absurd (show nI (b + n) ≤ nI (b + I.2.1 + 1) from nI_le (by omega) (by omega)) n_⟩ | refine ⟨fun n_ => absurd (show nI (b + n) ≤ nI (b + I.2.1 + 1) from nI_le (by omega) (by omega)) n_, fun _ => ?_⟩ | refine ⟨fun y_ => absurd y_ (show nI (b + n) ≤ nI (b + I.2.1 + 1) from nI_le (by omega) (by omega)), fun _ => ?_⟩ | refine ⟨fun _ => ?_, fun y_ => absurd y_ (show nI (b + n) ≤ nI (b + I.2.1 + 1) from nI_le (by omega) (by omega))⟩)
        have ex : u.toInt32 = nI R.toNat := by
          have eR3 : R = up9 (hd - 1) w (H.2.2.2.1, H.2.2.2.2, none, none, 1, I.2.2.2) d := eR2
          rw [eR3]
          refine l32_of ?_ (by omega)
          rw [eu]
          omega
        rw [ex]
        exact hq _ f53
    -- what is told
    have dec : ∀ (g : ah_T) (x6 : Int64) (x8 : Int32), tlF h0 g → Lx cs vs isL n b w g → ah_i g 82 20 = nI (b + I.2.1) → (x8 = 0 ↔ ev1 (match H.2.2.2.2 with | none => some (fun _ => some 1) | some m => some m) w ≠ none) → (∀ z, ev1 (match H.2.2.2.2 with | none => some (fun _ => some 1) | some m => some m) w = some z → x6.toInt = z) → (ah_i g 82 22 = 0 ↔ True) → pass (H.2.2.2.1, H.2.2.2.2, none, none, 1, I.2.2.2) w = true → Wp mX12_tells Q 0 0 144 [some (.ref 82), some (.int (nI hd)), none, some (.long v), none, some (.int (nI (cs i))), some (.long x6), none, some (.int x8), none] [] g := by
      intro g x6 x8 fg tg g20 k8 k6 k22 kp
      have hc3 : cs i ≤ 3 := by omega
      have hv : H.2.2.2.1 = cs i - 1 := by
        rcases hcs with ⟨y1, y2⟩ | ⟨y1, y2⟩
        · rw [y2, y1]
        · rw [y2]; rfl
      have hold_ : hold (H.2.2.2.1, H.2.2.2.2, none, none, 1, I.2.2.2) w = ev1 (match H.2.2.2.2 with | none => some (fun _ => some 1) | some m => some m) w := by
        unfold hold
        rw [if_pos kp]
        cases H.2.2.2.2 <;> rfl
      refine T_X12_tells_144 fg.1 _ _ _ _ _ ?_
      by_cases c1 : cs i = hd
      · (first | refine ⟨fun _ => ?_, fun n_ => absurd (show nI (cs i) = nI hd by rw [c1]) n_⟩ | refine ⟨fun n_ => absurd (show nI (cs i) = nI hd by rw [c1]) n_, fun _ => ?_⟩ | refine ⟨fun y_ => absurd y_ (show nI (cs i) = nI hd by rw [c1]), fun _ => ?_⟩ | refine ⟨fun _ => ?_, fun y_ => absurd y_ (show nI (cs i) = nI hd by rw [c1])⟩)
        have cu : H.2.2.2.1 = hd - 1 := by omega
        (first | refine ⟨fun _ => ?_, fun n_ => absurd (k22.mpr trivial) n_⟩ | refine ⟨fun n_ => absurd (k22.mpr trivial) n_, fun _ => ?_⟩ | refine ⟨fun y_ => absurd y_ (k22.mpr trivial), fun _ => ?_⟩ | refine ⟨fun _ => ?_, fun y_ => absurd y_ (k22.mpr trivial)⟩)
        by_cases c8 : x8 = 0
        · (first | refine ⟨fun _ => ?_, fun n_ => absurd (c8) n_⟩ | refine ⟨fun n_ => absurd (c8) n_, fun _ => ?_⟩ | refine ⟨fun y_ => absurd y_ (c8), fun _ => ?_⟩ | refine ⟨fun _ => ?_, fun y_ => absurd y_ (c8)⟩)
          have ne := k8.mp c8
          obtain ⟨z, ez⟩ : ∃ z, ev1 (match H.2.2.2.2 with | none => some (fun _ => some 1) | some m => some m) w = some z := by
            cases y : ev1 (match H.2.2.2.2 with | none => some (fun _ => some 1) | some m => some m) w with
            | none => exact absurd y ne
            | some z => exact ⟨z, rfl⟩
          have e6 := k6 z ez
          have eu : up9 (hd - 1) w (H.2.2.2.1, H.2.2.2.2, none, none, 1, I.2.2.2) d = clamp9 z := by
            unfold up9
            rw [if_pos cu, hold_, ez]
          have c0 : (0 ≤ lg_cmp x6 (0 : Int64)) ↔ 0 ≤ z := by rw [lg_cmp_ge, Int64.le_iff_toInt_le, e6]; exact Iff.rfl
          have c9 : (lg_cmp x6 (9 : Int64) ≤ 0) ↔ z ≤ 9 := by rw [lg_cmp_le, Int64.le_iff_toInt_le, e6]; exact Iff.rfl
          refine ⟨fun y => ⟨fun y2 => ?_, fun y2 => ?_⟩, fun y => ?_⟩
          · refine nxt g x6 fg tg g20 ?_
            rw [eu, e6]
            unfold clamp9
            have := c0.mp y
            have := c9.mp y2
            rw [if_neg (by omega), if_neg (by omega)]
          · refine nxt g 9 fg tg g20 ?_
            rw [eu]
            unfold clamp9
            have := c0.mp y
            have : ¬ z ≤ 9 := fun q => y2 (c9.mpr q)
            rw [if_neg (by omega), if_pos (by omega)]
            rfl
          · refine nxt g 0 fg tg g20 ?_
            rw [eu]
            unfold clamp9
            have : ¬ 0 ≤ z := fun q => y (c0.mpr q)
            rw [if_pos (by omega)]
            rfl
        · (first | refine ⟨fun _ => ?_, fun n_ => absurd (c8) n_⟩ | refine ⟨fun n_ => absurd (c8) n_, fun _ => ?_⟩ | refine ⟨fun y_ => absurd y_ (c8), fun _ => ?_⟩ | refine ⟨fun _ => ?_, fun y_ => absurd y_ (c8)⟩)
          refine nxt g v fg tg g20 ?_
          have : ev1 (match H.2.2.2.2 with | none => some (fun _ => some 1) | some m => some m) w = none := by
            cases y : ev1 (match H.2.2.2.2 with | none => some (fun _ => some 1) | some m => some m) w with
            | none => rfl
            | some z => exact absurd (k8.mpr (by rw [y]; exact fun q => (nomatch q))) c8
          rw [ev]
          unfold up9
          rw [if_pos cu, hold_, this]
      · (first | refine ⟨fun _ => ?_, fun n_ => absurd (show ¬ nI (cs i) = nI hd by rw [nI_eq (by omega) (by omega)]; exact c1) n_⟩ | refine ⟨fun n_ => absurd (show ¬ nI (cs i) = nI hd by rw [nI_eq (by omega) (by omega)]; exact c1) n_, fun _ => ?_⟩ | refine ⟨fun y_ => absurd y_ (show ¬ nI (cs i) = nI hd by rw [nI_eq (by omega) (by omega)]; exact c1), fun _ => ?_⟩ | refine ⟨fun _ => ?_, fun y_ => absurd y_ (show ¬ nI (cs i) = nI hd by rw [nI_eq (by omega) (by omega)]; exact c1)⟩)
        refine nxt g v fg tg g20 ?_
        rw [ev]
        unfold up9
        rw [if_neg (by omega)]
    have stay_ : ∀ (g : ah_T), tlF h0 g → Lx cs vs isL n b w g → ah_i g 82 20 = nI (b + I.2.1) → ¬ pass (H.2.2.2.1, H.2.2.2.2, none, none, 1, I.2.2.2) w = true → Wp mX12_tells Q 0 0 203 [some (.ref 82), some (.int (nI hd)), none, some (.long v), none, none, none, none, none, none] [] g := by
      intro g fg tg g20 kp
      refine nxt g v fg tg g20 ?_
      rw [ev]
      unfold up9 hold
      rw [if_neg kp]
      split <;> rfl
    -- the test
    obtain ⟨c1, c2⟩ := cdB t fh.1 e20 hi
    refine T_X12_tells_64 fh.1 _ _ ?_
    rw [e20, t.2.2.2.2.1]
    (first | refine ⟨fun _ => ?_, fun n_ => absurd (show ¬ nI (b + n) ≤ nI (b + i) from nI_ge (by omega) (by omega)) n_⟩ | refine ⟨fun n_ => absurd (show ¬ nI (b + n) ≤ nI (b + i) from nI_ge (by omega) (by omega)) n_, fun _ => ?_⟩ | refine ⟨fun y_ => absurd y_ (show ¬ nI (b + n) ≤ nI (b + i) from nI_ge (by omega) (by omega)), fun _ => ?_⟩ | refine ⟨fun _ => ?_, fun y_ => absurd y_ (show ¬ nI (b + n) ≤ nI (b + i) from nI_ge (by omega) (by omega))⟩)
    rw [e20, t.2.2.2.2.1] at c2
    rw [e20] at c1
    rw [c1]
    refine ⟨c2, ?_⟩
    rintro h14 rfl
    rw [ah_i_sn (show ¬ ((82 : Nat) = 82 ∧ 20 = 22) by omega), e20, nI_1]
    rintro h17 rfl
    have f17 := tlF_si (j := 20) (x := nI (b + i + 1)) (tlF_si (j := 22) (x := 0) fh (by omega)) (by omega)
    have t17 := Lx_si (j := 20) (x := nI (b + i + 1)) (Lx_si (j := 22) (x := 0) t (by decide) (by decide)) (by decide) (by decide)
    rcases hcs with ⟨y1, y2⟩ | ⟨y1, y2⟩
    · (first | refine ⟨fun _ => ?_, fun n_ => absurd (show nI (cs i) = 1 by rw [y1]; rfl) n_⟩ | refine ⟨fun n_ => absurd (show nI (cs i) = 1 by rw [y1]; rfl) n_, fun _ => ?_⟩ | refine ⟨fun y_ => absurd y_ (show nI (cs i) = 1 by rw [y1]; rfl), fun _ => ?_⟩ | refine ⟨fun _ => ?_, fun y_ => absurd y_ (show nI (cs i) = 1 by rw [y1]; rfl)⟩)
      rintro h36 rfl
      have t24 := Lx_si (j := 22) (x := 0) t17 (by decide) (by decide)
      have f24 := tlF_si (j := 22) (x := 0) f17 (by omega)
      have e24 : ah_i (ah_si (ah_si (ah_si h 82 22 0) 82 20 (nI (b + i + 1))) 82 22 0) 82 20 = nI (b + H.2.1) := by rw [ah_i_sn (by omega), ah_i_ss, y2]; rfl
      have e22 : ah_i (ah_si (ah_si (ah_si h 82 22 0) 82 20 (nI (b + i + 1))) 82 22 0) 82 22 = bI false := ah_i_ss
      have hn : H.2.2.2.2 = none := by rw [y2]
      have k6 : ∀ z, ev1 (match H.2.2.2.2 with | none => some (fun _ => some 1) | some m => some m) w = some z → (1 : Int64).toInt = z := by
        rw [hn]
        intro z hz
        exact Option.some.inj hz
      have k8 : (ah_i (ah_si (ah_si h 82 22 0) 82 20 (nI (b + i + 1))) 82 22 = 0 ↔ ev1 (match H.2.2.2.2 with | none => some (fun _ => some 1) | some m => some m) w ≠ none) := by
        rw [hn, ah_i_sn (by omega), ah_i_ss]
        exact ⟨fun _ q => (nomatch q), fun _ => rfl⟩
      refine m_passB t24 f24.1 e24 q1 (k := 4) rfl (by omega) (fun c => ⟨_, rfl, sh_si f24.1, ?_⟩) (fun c => ⟨_, rfl, f24.1, ?_⟩)
      · (first | refine ⟨fun _ => ?_, fun n_ => absurd (show ¬ (1 : Int32) = 0 by decide) n_⟩ | refine ⟨fun n_ => absurd (show ¬ (1 : Int32) = 0 by decide) n_, fun _ => ?_⟩ | refine ⟨fun y_ => absurd y_ (show ¬ (1 : Int32) = 0 by decide), fun _ => ?_⟩ | refine ⟨fun _ => ?_, fun y_ => absurd y_ (show ¬ (1 : Int32) = 0 by decide)⟩)
        have hin2 := lt_n g2 q1 (by omega)
        have hdI : I = pMp some (pTest cs vs isL 8 (H.2.1 + 1) H.2.2.1) := by rw [e2]; unfold pIf; rw [if_pos c]
        have pt : (pTest cs vs isL 8 (H.2.1 + 1) H.2.2.1).1 = true := by have := h2; rw [hdI] at this; exact this
        have t25 := Lx_si (j := 20) (x := nI (b + (H.2.1 + 1))) t24 (by decide) (by decide)
        have f25 := tlF_si (j := 20) (x := nI (b + (H.2.1 + 1))) f24 (by omega)
        have ei : I.2.2.2 = some (pTest cs vs isL 8 (H.2.1 + 1) H.2.2.1).2.2.2 := by rw [hdI]; rfl
        refine ev_Test t25 8 60 (by omega) _ _ (H.2.1 + 1) H.2.2.1 true false hin2 (q3 h1).2 pt ⟨fr82_rfl f25.1, ah_i_ss, by rw [ah_i_sn (by omega)]; exact e22⟩ (fun vb f br x RR => ⟨_, rfl, x.1.1, ?_⟩)
        have ff := tlF_ex f25 x.1
        have tf := Lx_e t25 x.1
        have f20 : ah_i f 82 20 = nI (b + I.2.1) := by rw [hdI]; exact x.2.1
        obtain ⟨u1, u2⟩ := RR.2 rfl rfl
        have kp := pass_t (cl := (H.2.2.2.1, H.2.2.2.2, none, none, 1, I.2.2.2)) (w := w) ei
        cases y : (pTest cs vs isL 8 (H.2.1 + 1) H.2.2.1).2.2.2 w with
        | none =>
          have ybr := u1 y
          subst ybr
          have np : ¬ pass (H.2.2.2.1, H.2.2.2.2, none, none, 1, I.2.2.2) w = true := by rw [kp, y]; exact fun q => (nomatch q)
          have x22 : ah_i f 82 22 = 1 := x.2.2
          cases vb
          · (first | refine ⟨fun _ => ?_, fun n_ => absurd (show bI false = 0 by rfl) n_⟩ | refine ⟨fun n_ => absurd (show bI false = 0 by rfl) n_, fun _ => ?_⟩ | refine ⟨fun y_ => absurd y_ (show bI false = 0 by rfl), fun _ => ?_⟩ | refine ⟨fun _ => ?_, fun y_ => absurd y_ (show bI false = 0 by rfl)⟩)
            exact ⟨fun _ => stay_ f ff tf f20 np, fun _ => stay_ f ff tf f20 np⟩
          · (first | refine ⟨fun _ => ?_, fun n_ => absurd (show ¬ bI true = 0 by decide) n_⟩ | refine ⟨fun n_ => absurd (show ¬ bI true = 0 by decide) n_, fun _ => ?_⟩ | refine ⟨fun y_ => absurd y_ (show ¬ bI true = 0 by decide), fun _ => ?_⟩ | refine ⟨fun _ => ?_, fun y_ => absurd y_ (show ¬ bI true = 0 by decide)⟩)
            refine T_X12_tells_144 ff.1 _ _ _ _ _ ⟨fun _ => stay_ f ff tf f20 np, fun _ => ?_⟩
            (first | refine ⟨fun _ => ?_, fun n_ => absurd (show ¬ ah_i f 82 22 = 0 by rw [x22]; decide) n_⟩ | refine ⟨fun n_ => absurd (show ¬ ah_i f 82 22 = 0 by rw [x22]; decide) n_, fun _ => ?_⟩ | refine ⟨fun y_ => absurd y_ (show ¬ ah_i f 82 22 = 0 by rw [x22]; decide), fun _ => ?_⟩ | refine ⟨fun _ => ?_, fun y_ => absurd y_ (show ¬ ah_i f 82 22 = 0 by rw [x22]; decide)⟩)
            exact stay_ f ff tf f20 np
        | some z =>
          obtain ⟨u3, u4⟩ := u2 z y
          subst u3 u4
          cases vb
          · (first | refine ⟨fun _ => ?_, fun n_ => absurd (show bI false = 0 by rfl) n_⟩ | refine ⟨fun n_ => absurd (show bI false = 0 by rfl) n_, fun _ => ?_⟩ | refine ⟨fun y_ => absurd y_ (show bI false = 0 by rfl), fun _ => ?_⟩ | refine ⟨fun _ => ?_, fun y_ => absurd y_ (show bI false = 0 by rfl)⟩)
            have np : ¬ pass (H.2.2.2.1, H.2.2.2.2, none, none, 1, I.2.2.2) w = true := by rw [kp, y]; exact fun q => absurd (Option.some.inj q) (by decide)
            exact ⟨fun _ => stay_ f ff tf f20 np, fun _ => stay_ f ff tf f20 np⟩
          · (first | refine ⟨fun _ => ?_, fun n_ => absurd (show ¬ bI true = 0 by decide) n_⟩ | refine ⟨fun n_ => absurd (show ¬ bI true = 0 by decide) n_, fun _ => ?_⟩ | refine ⟨fun y_ => absurd y_ (show ¬ bI true = 0 by decide), fun _ => ?_⟩ | refine ⟨fun _ => ?_, fun y_ => absurd y_ (show ¬ bI true = 0 by decide)⟩)
            exact dec f _ _ ff tf f20 k8 k6 ⟨fun _ => trivial, fun _ => x.2.2⟩ (by rw [kp, y])
      · (first | refine ⟨fun _ => ?_, fun n_ => absurd (show (0 : Int32) = 0 by rfl) n_⟩ | refine ⟨fun n_ => absurd (show (0 : Int32) = 0 by rfl) n_, fun _ => ?_⟩ | refine ⟨fun y_ => absurd y_ (show (0 : Int32) = 0 by rfl), fun _ => ?_⟩ | refine ⟨fun _ => ?_, fun y_ => absurd y_ (show (0 : Int32) = 0 by rfl)⟩)
        have hdI : I = (true, H.2.1, H.2.2.1, none) := by rw [e2]; unfold pIf; rw [if_neg c]
        have ei : I.2.2.2 = none := by rw [hdI]
        exact dec _ _ _ f24 t24 (by rw [hdI]; exact e24) k8 k6 ⟨fun _ => trivial, fun _ => e22⟩ (pass_n (cl := (H.2.2.2.1, H.2.2.2.2, none, none, 1, I.2.2.2)) ei)
    · (first | refine ⟨fun _ => ?_, fun n_ => absurd (show ¬ nI (cs i) = 1 by rw [n_1, nI_eq (by omega) (by omega)]; omega) n_⟩ | refine ⟨fun n_ => absurd (show ¬ nI (cs i) = 1 by rw [n_1, nI_eq (by omega) (by omega)]; omega) n_, fun _ => ?_⟩ | refine ⟨fun y_ => absurd y_ (show ¬ nI (cs i) = 1 by rw [n_1, nI_eq (by omega) (by omega)]; omega), fun _ => ?_⟩ | refine ⟨fun _ => ?_, fun y_ => absurd y_ (show ¬ nI (cs i) = 1 by rw [n_1, nI_eq (by omega) (by omega)]; omega)⟩)
      have ps : (pSum cs vs isL 8 (i + 1) lv).1 = true := by have := h1; rw [y2] at this; exact this
      refine ev_Sum t17 8 60 (by omega) _ _ (i + 1) lv true false hin hl ps ⟨fr82_rfl f17.1, by rw [ah_i_ss]; exact congrArg nI (by omega), by rw [ah_i_sn (by omega), ah_i_ss]; rfl⟩ (fun v23 g br x RR => ⟨v23, rfl, x.1.1, ?_⟩)
      rintro h24 rfl
      have tg := Lx_e t17 x.1
      have fg := tlF_ex f17 x.1
      have t24 := Lx_si (j := 22) (x := 0) tg (by decide) (by decide)
      have f24 := tlF_si (j := 22) (x := 0) fg (by omega)
      have e24 : ah_i (ah_si g 82 22 0) 82 20 = nI (b + H.2.1) := by rw [ah_i_sn (by omega), y2]; exact x.2.1
      have e22 : ah_i (ah_si g 82 22 0) 82 22 = bI false := ah_i_ss
      have hn : H.2.2.2.2 = some (pSum cs vs isL 8 (i + 1) lv).2.2.2 := by rw [y2]; rfl
      obtain ⟨u1, u2⟩ := RR.2 rfl rfl
      have k6 : ∀ z, ev1 (match H.2.2.2.2 with | none => some (fun _ => some 1) | some m => some m) w = some z → v23.toInt = z := by
        rw [hn]
        intro z hz
        exact (u2 z hz).2.1
      have k8 : (ah_i g 82 22 = 0 ↔ ev1 (match H.2.2.2.2 with | none => some (fun _ => some 1) | some m => some m) w ≠ none) := by
        rw [hn, x.2.2]
        show _ ↔ (pSum cs vs isL 8 (i + 1) lv).2.2.2 w ≠ none
        cases y : (pSum cs vs isL 8 (i + 1) lv).2.2.2 w with
        | none => rw [u1 y]; exact ⟨fun q => absurd q (by decide), fun q => absurd rfl q⟩
        | some z => rw [(u2 z y).1]; exact ⟨fun _ q => (nomatch q), fun _ => rfl⟩
      refine m_passB t24 f24.1 e24 q1 (k := 4) rfl (by omega) (fun c => ⟨_, rfl, sh_si f24.1, ?_⟩) (fun c => ⟨_, rfl, f24.1, ?_⟩)
      · (first | refine ⟨fun _ => ?_, fun n_ => absurd (show ¬ (1 : Int32) = 0 by decide) n_⟩ | refine ⟨fun n_ => absurd (show ¬ (1 : Int32) = 0 by decide) n_, fun _ => ?_⟩ | refine ⟨fun y_ => absurd y_ (show ¬ (1 : Int32) = 0 by decide), fun _ => ?_⟩ | refine ⟨fun _ => ?_, fun y_ => absurd y_ (show ¬ (1 : Int32) = 0 by decide)⟩)
        have hin2 := lt_n g2 q1 (by omega)
        have hdI : I = pMp some (pTest cs vs isL 8 (H.2.1 + 1) H.2.2.1) := by rw [e2]; unfold pIf; rw [if_pos c]
        have pt : (pTest cs vs isL 8 (H.2.1 + 1) H.2.2.1).1 = true := by have := h2; rw [hdI] at this; exact this
        have t25 := Lx_si (j := 20) (x := nI (b + (H.2.1 + 1))) t24 (by decide) (by decide)
        have f25 := tlF_si (j := 20) (x := nI (b + (H.2.1 + 1))) f24 (by omega)
        have ei : I.2.2.2 = some (pTest cs vs isL 8 (H.2.1 + 1) H.2.2.1).2.2.2 := by rw [hdI]; rfl
        refine ev_Test t25 8 60 (by omega) _ _ (H.2.1 + 1) H.2.2.1 true false hin2 (q3 h1).2 pt ⟨fr82_rfl f25.1, ah_i_ss, by rw [ah_i_sn (by omega)]; exact e22⟩ (fun vb f br x RR => ⟨_, rfl, x.1.1, ?_⟩)
        have ff := tlF_ex f25 x.1
        have tf := Lx_e t25 x.1
        have f20 : ah_i f 82 20 = nI (b + I.2.1) := by rw [hdI]; exact x.2.1
        obtain ⟨u1, u2⟩ := RR.2 rfl rfl
        have kp := pass_t (cl := (H.2.2.2.1, H.2.2.2.2, none, none, 1, I.2.2.2)) (w := w) ei
        cases y : (pTest cs vs isL 8 (H.2.1 + 1) H.2.2.1).2.2.2 w with
        | none =>
          have ybr := u1 y
          subst ybr
          have np : ¬ pass (H.2.2.2.1, H.2.2.2.2, none, none, 1, I.2.2.2) w = true := by rw [kp, y]; exact fun q => (nomatch q)
          have x22 : ah_i f 82 22 = 1 := x.2.2
          cases vb
          · (first | refine ⟨fun _ => ?_, fun n_ => absurd (show bI false = 0 by rfl) n_⟩ | refine ⟨fun n_ => absurd (show bI false = 0 by rfl) n_, fun _ => ?_⟩ | refine ⟨fun y_ => absurd y_ (show bI false = 0 by rfl), fun _ => ?_⟩ | refine ⟨fun _ => ?_, fun y_ => absurd y_ (show bI false = 0 by rfl)⟩)
            exact ⟨fun _ => stay_ f ff tf f20 np, fun _ => stay_ f ff tf f20 np⟩
          · (first | refine ⟨fun _ => ?_, fun n_ => absurd (show ¬ bI true = 0 by decide) n_⟩ | refine ⟨fun n_ => absurd (show ¬ bI true = 0 by decide) n_, fun _ => ?_⟩ | refine ⟨fun y_ => absurd y_ (show ¬ bI true = 0 by decide), fun _ => ?_⟩ | refine ⟨fun _ => ?_, fun y_ => absurd y_ (show ¬ bI true = 0 by decide)⟩)
            refine T_X12_tells_144 ff.1 _ _ _ _ _ ⟨fun _ => stay_ f ff tf f20 np, fun _ => ?_⟩
            (first | refine ⟨fun _ => ?_, fun n_ => absurd (show ¬ ah_i f 82 22 = 0 by rw [x22]; decide) n_⟩ | refine ⟨fun n_ => absurd (show ¬ ah_i f 82 22 = 0 by rw [x22]; decide) n_, fun _ => ?_⟩ | refine ⟨fun y_ => absurd y_ (show ¬ ah_i f 82 22 = 0 by rw [x22]; decide), fun _ => ?_⟩ | refine ⟨fun _ => ?_, fun y_ => absurd y_ (show ¬ ah_i f 82 22 = 0 by rw [x22]; decide)⟩)
            exact stay_ f ff tf f20 np
        | some z =>
          obtain ⟨u3, u4⟩ := u2 z y
          subst u3 u4
          cases vb
          · (first | refine ⟨fun _ => ?_, fun n_ => absurd (show bI false = 0 by rfl) n_⟩ | refine ⟨fun n_ => absurd (show bI false = 0 by rfl) n_, fun _ => ?_⟩ | refine ⟨fun y_ => absurd y_ (show bI false = 0 by rfl), fun _ => ?_⟩ | refine ⟨fun _ => ?_, fun y_ => absurd y_ (show bI false = 0 by rfl)⟩)
            have np : ¬ pass (H.2.2.2.1, H.2.2.2.2, none, none, 1, I.2.2.2) w = true := by rw [kp, y]; exact fun q => absurd (Option.some.inj q) (by decide)
            exact ⟨fun _ => stay_ f ff tf f20 np, fun _ => stay_ f ff tf f20 np⟩
          · (first | refine ⟨fun _ => ?_, fun n_ => absurd (show ¬ bI true = 0 by decide) n_⟩ | refine ⟨fun n_ => absurd (show ¬ bI true = 0 by decide) n_, fun _ => ?_⟩ | refine ⟨fun y_ => absurd y_ (show ¬ bI true = 0 by decide), fun _ => ?_⟩ | refine ⟨fun _ => ?_, fun y_ => absurd y_ (show ¬ bI true = 0 by decide)⟩)
            exact dec f _ _ ff tf f20 k8 k6 ⟨fun _ => trivial, fun _ => x.2.2⟩ (by rw [kp, y])
      · (first | refine ⟨fun _ => ?_, fun n_ => absurd (show (0 : Int32) = 0 by rfl) n_⟩ | refine ⟨fun n_ => absurd (show (0 : Int32) = 0 by rfl) n_, fun _ => ?_⟩ | refine ⟨fun y_ => absurd y_ (show (0 : Int32) = 0 by rfl), fun _ => ?_⟩ | refine ⟨fun _ => ?_, fun y_ => absurd y_ (show (0 : Int32) = 0 by rfl)⟩)
        have hdI : I = (true, H.2.1, H.2.2.1, none) := by rw [e2]; unfold pIf; rw [if_neg c]
        have ei : I.2.2.2 = none := by rw [hdI]
        exact dec _ _ _ f24 t24 (by rw [hdI]; exact e24) k8 k6 ⟨fun _ => trivial, fun _ => e22⟩ (pass_n (cl := (H.2.2.2.1, H.2.2.2.2, none, none, 1, I.2.2.2)) ei)
end MT
