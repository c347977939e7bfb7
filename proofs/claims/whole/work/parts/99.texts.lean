/-! ===== both readers, from a tape of bytes on ===== -/
def csO (D : Nat → Nat) (d : Nat) : Nat → Nat := fun k => ((tks D d d 0).getD k tz).1
def vsO (D : Nat → Nat) (d : Nat) : Nat → Nat := fun k => ((tks D d d 0).getD k tz).2.1
def tnO (D : Nat → Nat) (d : Nat) : Nat := (tks D d d 0).length
def plO (D : Nat → Nat) (d : Nat) : Nat → Nat := fun k => if k < tnO D d then ((tks D d d 0).getD k tz).2.2 else d
/-- what a text says -/
def txR (ro : Bool) (D : Nat → Nat) (d : Nat) : pR (List Cl) := pTx (csO D d) (tnO D d) (oneOf ro (csO D d) (vsO D d)) 12 [] 0 0
theorem tks_ok {D : Nat → Nat} {d : Nat} (hD : ∀ j, j < d → D j < 256) : ∀ f k, ∀ e ∈ tks D d f k, (e.1 = 50 ∨ e.1 ≤ 25 ∨ (100 ≤ e.1 ∧ e.1 < 356)) ∧ e.2.1 ≤ 10000009 ∧ e.2.2 < d
  | 0, k, e, he => by cases he
  | f + 1, k, e, he => by
    rw [tks_s] at he
    by_cases c : d ≤ k
    · rw [if_pos c] at he; cases he
    · rw [if_neg c] at he
      by_cases c2 : kd (D k) = 0
      · rw [if_pos c2] at he
        exact tks_ok hD f (k + 1) e he
      · rw [if_neg c2] at he
        rcases List.mem_cons.mp he with rfl | he
        · have := tcA_le (D := D) (d := d) (k := k) (by omega) hD
          exact ⟨this.1, this.2, by show k < d; omega⟩
        · exact tks_ok hD f _ e he
theorem z255 : ∀ c, c ≤ 20 → 8 ≤ c → (bt 255 (c - 8) = true ↔ isVof false c = true) := by decide +kernel
theorem z8000 : ∀ c, c ≤ 20 → 8 ≤ c → (bt 8000 (c - 8) = true ↔ isVof true c = true) := by decide +kernel
theorem isv_l : ∀ c, c < 400 → (f_X12_lies (nI c) 8 15 = 0 ↔ isVof false c = false) := by decide +kernel
theorem isv_r : ∀ c, c < 400 → ((if nI c = 14 then (1 : Int32) else (if (f_X12_lies (nI c) 16 20) = 0 then 0 else 1)) = 0 ↔ isVof true c = false) := by decide +kernel
section TT
variable {D : Nat → Nat} {d : Nat} {ro : Bool}
theorem tnO_le : tnO D d ≤ d := by have := tks_len D d d 0; unfold tnO; omega
theorem csO_ge {k : Nat} (hk : tnO D d ≤ k) : csO D d k = 0 ∧ vsO D d k = 0 := by
  unfold csO vsO
  unfold tnO at hk
  have : (tks D d d 0).getD k tz = tz := by simp [List.getD, List.getElem?_eq_none hk]
  rw [this]
  exact ⟨rfl, rfl⟩
theorem csO_ok (hD : ∀ j, j < d → D j < 256) {k : Nat} (hk : k < tnO D d) : (csO D d k = 50 ∨ csO D d k ≤ 25 ∨ (100 ≤ csO D d k ∧ csO D d k < 356)) ∧ vsO D d k ≤ 10000009 ∧ plO D d k < d := by
  unfold tnO at hk
  have hm : (tks D d d 0).getD k tz ∈ tks D d d 0 := by
    have : (tks D d d 0).getD k tz = (tks D d d 0)[k] := by simp [List.getD, hk]
    rw [this]
    exact List.getElem_mem hk
  have := tks_ok hD d 0 _ hm
  unfold csO vsO plO tnO
  rw [if_pos hk]
  exact this
theorem plO_le (hD : ∀ j, j < d → D j < 256) (k : Nat) : plO D d k ≤ d := by
  by_cases hk : k < tnO D d
  · have := (csO_ok hD hk).2.2; omega
  · unfold plO; rw [if_neg hk]; exact Nat.le_refl _
/-- the class's cells behind its reader -/
def crF (h h' : ah_T) : Prop := Sh h' ∧ ah_x h ≤ ah_x h' ∧ ∀ a, a < ah_x h → (a < 20 ∨ 25 < a) → eqc h h' a
theorem c_readT {Q : Option Value → ah_T → Prop} {h : ah_T} (hs : Sh h) (hd : d ≤ 400) (hD0 : ∀ j, j < d → D j < 256 ∧ ah_i h 17 j = nI (D j)) {x y : Int32} (ex : x = nI d) (ey : y = bI (!ro))
    (q1 : (txR ro D d).1 = true → ∀ h' x, crF h h' → ah_x h' = ah_x h + 4 → x = ah_x h → ah_i h' 20 0 = -1 → tx h' x ro (txR ro D d).2.2.2 → Q (some (va_rf (some x))) h')
    (q0 : (txR ro D d).1 = false → ∀ h', crF h h' → ah_x h' = ah_x h → ah_i h' 20 0 = nI (plO D d (txR ro D d).2.1) → Q (some (va_rf none)) h') : Mt mX5_read [.ref 20, .ref 17, .int x, .int y] h Q := by
  subst ex ey
  have k17 : ∀ {h}, Sh h → ah_k h 17 = 14 := fun hs => sh_k hs 17 14 (by decide) rfl
  have hx3 := hs.2.2
  refine T_X5_read hs 17 _ _ (k17 hs) (c_split hs rfl hd hD0 (fun h1 p e1 e2 => ⟨rfl, p.1.1, k17 p.1.1, ?_⟩))
  obtain ⟨⟨s1, x1, f1⟩, p2⟩ := p
  refine c_fillA s1 24 (-1) (sh_k s1 24 14 (by decide) rfl) (by rw [n24 s1]; decide) ⟨rfl, sh_fl s1, k17 (sh_fl s1), ?_⟩
  have n25 : ∀ {h}, Sh h → ah_n h 25 = 5 := fun hs => sh_n hs 25 5 (by decide) (by decide) rfl
  refine c_fillA (sh_fl s1) 25 0 (sh_k (sh_fl s1) 25 14 (by decide) rfl) (by rw [n25 (sh_fl s1)]; decide) ⟨rfl, sh_fl (sh_fl s1), k17 (sh_fl (sh_fl s1)), ?_⟩
  rw [n24 s1, n25 (sh_fl s1)]
  rintro h13 rfl h17 rfl h21 rfl
  have fin : ∀ z : Int32, (∀ c, 8 ≤ c → c ≤ 20 → (bt z (c - 8) = true ↔ isVof ro c = true)) → Wp mX5_read Q 0 0 57 [some (.ref 20), none, none, some (.int (bI (!ro))), some (.int 0), none] [] (ah_si (ah_si (ah_si (ah_si (ab_fl (ab_fl h1 24 0 72 (-1)) 25 0 5 0) 20 6 0) 20 7 0) 20 8 0) 20 9 z) := by
    intro z hz
    obtain ⟨g, eg⟩ : ∃ g, g = ah_si (ah_si (ah_si (ah_si (ab_fl (ab_fl h1 24 0 72 (-1)) 25 0 5 0) 20 6 0) 20 7 0) 20 8 0) 20 9 z := ⟨_, rfl⟩
    rw [← eg]
    have gs : Sh g := by rw [eg]; exact sh_si (sh_si (sh_si (sh_si (sh_fl (sh_fl s1)))))
    have gx : ah_x g = ah_x h := by rw [eg, ah_x_si, ah_x_si, ah_x_si, ah_x_si, x_fl, x_fl, x1]
    have ge : ∀ a, a ≠ 20 → a ≠ 24 → a ≠ 25 → eqc h1 g a := fun a n1 n2 n3 => by rw [eg]; exact eqc_si (eqc_si (eqc_si (eqc_si (eqc_fl (eqc_fl eqc_rfl n2) n3) n1) n1) n1) n1
    have g9 : ah_i g 20 9 = z := by rw [eg, ah_i_ss]
    have g6 : ah_i g 20 6 = 0 := by rw [eg, ah_i_sn (by omega), ah_i_sn (by omega), ah_i_sn (by omega), ah_i_ss]
    have g7 : ah_i g 20 7 = 0 := by rw [eg, ah_i_sn (by omega), ah_i_sn (by omega), ah_i_ss]
    have g8 : ah_i g 20 8 = 0 := by rw [eg, ah_i_sn (by omega), ah_i_ss]
    have g24 : ∀ j, ah_i g 24 j = if j < 72 then -1 else ah_i h1 24 j := fun j => by
      rw [eg, ah_i_sn (by omega), ah_i_sn (by omega), ah_i_sn (by omega), ah_i_sn (by omega), ah_i_fl, if_neg (by omega), ah_i_fl]
      by_cases c : j < 72
      · rw [if_pos (by omega), if_pos c]
      · rw [if_neg (by omega), if_neg c]
    have hcs : ∀ k, k < tnO D d → ah_i g 21 k = nI (tkO (csO D d k) (vsO D d k)) ∧ ah_i g 22 k = nI (plO D d k) := fun k hk => by
      have := p2 k hk
      rw [(ge 21 (by decide) (by decide) (by decide)).1, (ge 22 (by decide) (by decide) (by decide)).1]
      unfold plO
      rw [if_pos hk]
      exact this
    have t : Ck (csO D d) (vsO D d) (isVof ro) (tnO D d) g := by
      refine ⟨by have := tnO_le (D := D) (d := d); omega, (csO_ge (Nat.le_refl _)).1, isVof_0 ro, fun k hk => ⟨(hcs k hk).1, (csO_ok (fun j hj => (hD0 j hj).1) hk).1⟩, by rw [(ge 21 (by decide) (by decide) (by decide)).1]; exact e1, fun c hc => ?_, fun c h1 h2 => by rw [g9]; exact hz c h1 h2⟩
      unfold isVof at hc
      cases ro
      · have := of_decide_eq_true hc
        omega
      · have := Bool.or_eq_true .. |>.mp hc
        rcases this with y | y
        · have := beq_iff_eq.mp y; omega
        · have := of_decide_eq_true y; omega
    have hp : ∀ k, k ≤ tnO D d → ah_i g 22 k = nI (plO D d k) := by
      intro k hk
      rcases Nat.lt_or_ge k (tnO D d) with y | y
      · exact (hcs k y).2
      · have : k = tnO D d := by omega
        subst this
        rw [(ge 22 (by decide) (by decide) (by decide)).1]
        unfold plO
        rw [if_neg (by omega)]
        exact e2
    have frame : ∀ {h'}, wFr g h' → crF h h' := fun w => ⟨w.1, by have := w.2.1; omega, fun a h1 h2 => eqc_trans (eqc_trans (f1 a (by omega) (by omega)) (ge a (by omega) (by omega) (by omega))) (w.2.2 a (by omega) (by omega) (by omega) (by omega) (by omega))⟩
    refine c_read_loop t hp 12 0 [] 0 0 0 (fun _ => 0) (ah_i g 20 10) (ah_i g 24) (ah_i g 25) g (by omega) rfl ⟨rFr_rfl gs, g6, g7, g8, rfl, fun k hk => by omega, fun _ => rfl, fun _ => rfl⟩ (Nat.zero_le _) (by omega) (by omega) (fun k hk => by simp at hk) (fun j _ h2 => by rw [g24, if_pos h2]) ⟨fun e h' x w ex e3 e4 e5 => q1 e h' x (frame w) (by omega) (by omega) e4 e5, fun e h' w e3 e4 => q0 e h' (frame w) (by omega) e4⟩
  cases ro
  · (first | refine ⟨fun _ => ?_, fun n_ => absurd (show ¬ bI (!false) = 0 by decide) n_⟩ | refine ⟨fun n_ => absurd (show ¬ bI (!false) = 0 by decide) n_, fun _ => ?_⟩ | refine ⟨fun y_ => absurd y_ (show ¬ bI (!false) = 0 by decide), fun _ => ?_⟩ | refine ⟨fun _ => ?_, fun y_ => absurd y_ (show ¬ bI (!false) = 0 by decide)⟩)
    rintro h30 rfl
    exact fin 255 (fun c h1 h2 => z255 c h2 h1)
  · (first | refine ⟨fun _ => ?_, fun n_ => absurd (show bI (!true) = 0 by rfl) n_⟩ | refine ⟨fun n_ => absurd (show bI (!true) = 0 by rfl) n_, fun _ => ?_⟩ | refine ⟨fun y_ => absurd y_ (show bI (!true) = 0 by rfl), fun _ => ?_⟩ | refine ⟨fun _ => ?_, fun y_ => absurd y_ (show bI (!true) = 0 by rfl)⟩)
    rintro h26 rfl
    exact fin 8000 (fun c h1 h2 => z8000 c h2 h1)
/-- the model's cells behind its reader -/
def mrF (D : Nat → Nat) (d : Nat) (h h' : ah_T) : Prop := Sh h' ∧ ah_x h' = ah_x h ∧ (∀ a, a ≠ 82 → a ≠ 90 → a ≠ 91 → a ≠ 92 → eqc h h' a) ∧ (∀ j, j ≠ 11 → j ≠ 12 → j ≠ 16 → j ≠ 17 → j ≠ 18 → j ≠ 19 → ah_i h' 82 j = ah_i h 82 j) ∧ ah_i h' 82 11 = 0 ∧ ah_i h' 82 16 = nI (tnO D d) ∧ ∀ k, k < tnO D d → ah_i h' 90 k = nI (csO D d k) ∧ ah_i h' 91 k = nI (vsO D d k)
theorem m_reads {Q : Option Value → ah_T → Prop} {h : ah_T} (hs : Sh h) (hd : d ≤ 400) (hD0 : ∀ j, j < d → D j < 256 ∧ ah_i h 88 j = sB (D j)) (e11 : ah_i h 82 11 = nI d) (n87 : ah_n h 87 = mBy.length) (hW : ∀ j, j < mBy.length → ah_i h 87 j = nI (mBy.getD j 0)) (e8 : ah_i h 82 8 = bI ro)
    (q1 : (txR ro D d).1 = true → ∀ h', mrF D d h h' → ah_i h' 82 12 = -1 → Q (some (.int 1)) h')
    (q0 : (txR ro D d).1 = false → ∀ h', mrF D d h h' → ah_i h' 82 12 = nI (plO D d (txR ro D d).2.1) → Q (some (.int 0)) h') : Mt mX12_reads [.ref 82] h Q := by
  refine T_X12_reads hs (m_splits hs e11 hd hD0 n87 hW (fun h1 p z1 z2 z3 => ⟨rfl, p.1.1, ?_⟩))
  obtain ⟨⟨s1, x1, f1, f2⟩, p1, p2⟩ := p
  rintro h4 rfl h7 rfl h10 rfl h13 rfl
  obtain ⟨g, eg⟩ : ∃ g, g = ah_si (ah_si (ah_si (ah_si h1 82 11 0) 82 17 0) 82 18 0) 82 19 (-1) := ⟨_, rfl⟩
  rw [← eg]
  have gs : Sh g := by rw [eg]; exact sh_si (sh_si (sh_si (sh_si s1)))
  have gx : ah_x g = ah_x h := by rw [eg, ah_x_si, ah_x_si, ah_x_si, ah_x_si, x1]
  have ge : ∀ a, a ≠ 82 → eqc h1 g a := fun a n1 => by rw [eg]; exact eqc_si (eqc_si (eqc_si (eqc_si eqc_rfl n1) n1) n1) n1
  have g82 : ∀ j, j ≠ 11 → j ≠ 17 → j ≠ 18 → j ≠ 19 → ah_i g 82 j = ah_i h1 82 j := fun j n1 n2 n3 n4 => by rw [eg, ah_i_sn (by omega), ah_i_sn (by omega), ah_i_sn (by omega), ah_i_sn (by omega)]
  have g11 : ah_i g 82 11 = 0 := by rw [eg, ah_i_sn (by omega), ah_i_sn (by omega), ah_i_sn (by omega), ah_i_ss]
  have g17 : ah_i g 82 17 = 0 := by rw [eg, ah_i_sn (by omega), ah_i_sn (by omega), ah_i_ss]
  have g18 : ah_i g 82 18 = 0 := by rw [eg, ah_i_sn (by omega), ah_i_ss]
  have g19 : ah_i g 82 19 = -1 := by rw [eg, ah_i_ss]
  have tl := tnO_le (D := D) (d := d)
  have g8 : ah_i g 82 8 = bI ro := by rw [g82 8 (by omega) (by omega) (by omega) (by omega), f2 8 (by omega)]; exact e8
  have t : Tk (csO D d) (vsO D d) (plO D d) (isVof ro) (tnO D d) g := by
    refine ⟨by omega, (csO_ge (Nat.le_refl _)).1, isVof_0 ro, fun k hk => ?_, fun c hc => ?_⟩
    · rw [(ge 90 (by decide)).1, (ge 91 (by decide)).1, (ge 92 (by decide)).1]
      have pe := plO_le (fun j hj => (hD0 j hj).1) k
      rcases Nat.lt_or_ge k (tnO D d) with y | y
      · obtain ⟨o1, o2, o3⟩ := csO_ok (fun j hj => (hD0 j hj).1) y
        have := p2 k y
        refine ⟨this.1, this.2.1, ?_, by omega, by omega, by omega⟩
        unfold plO
        rw [if_pos y]
        exact this.2.2
      · have e : k = tnO D d := by omega
        subst e
        obtain ⟨o1, o2⟩ := csO_ge (D := D) (d := d) (Nat.le_refl _)
        refine ⟨by rw [o1]; exact z1, by rw [o2]; exact z2, ?_, by omega, by omega, by omega⟩
        unfold plO
        rw [if_neg (by omega)]
        exact z3
    · unfold f_X12_isValue
      rw [g8]
      cases ro
      · rw [if_pos (show bI false = 0 from rfl)]
        exact isv_l c hc
      · rw [if_neg (show ¬ bI true = 0 by decide)]
        exact isv_r c hc
  have frame : ∀ {h' : ah_T} {i lv : Nat} {x : Int32}, fr82 rP g h' → mrF D d h (ah_si h' 82 12 x) := by
    intro h' i lv x w
    obtain ⟨w1, w2, w3, w4, w5⟩ := w
    refine ⟨sh_si w1, by rw [ah_x_si, w2, gx], fun a n1 n2 n3 n4 => eqc_si (eqc_trans (eqc_trans (f1 a n1 n2 n3 n4) (ge a n1)) (w3 a n1)) n1, fun j n1 n2 n3 n4 n5 n6 => ?_, ?_, ?_, fun k hk => ?_⟩
    · rw [ah_i_sn (by omega), w4 j (by omega), g82 j n1 n4 n5 n6, f2 j n3]
    · rw [ah_i_sn (by omega), w4 11 (by omega), g11]
    · rw [ah_i_sn (by omega), w4 16 (by omega), g82 16 (by omega) (by omega) (by omega) (by omega)]; exact p1
    · rw [ah_i_sn (by omega), ah_i_sn (by omega), (w3 90 (by decide)).1, (w3 91 (by decide)).1, (ge 90 (by decide)).1, (ge 91 (by decide)).1]
      have := p2 k hk
      exact ⟨this.1, this.2.1⟩
  refine mr_text t gs (by rw [g82 16 (by omega) (by omega) (by omega) (by omega)]; exact p1) g8 g17 g18 g19 ⟨fun e h' w => ?_, fun e h' w => ?_⟩
  · exact q1 e _ (frame (i := 0) (lv := 0) w.1) ah_i_ss
  · exact q0 e _ (frame (i := 0) (lv := 0) w.1) ah_i_ss
end TT
