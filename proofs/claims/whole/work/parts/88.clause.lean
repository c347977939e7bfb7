/-! ===== clauses, texts: a parse with what they mean; the model's reader of clauses ===== -/
/-- a clause: its verb (shuns 0, reaches 1, drinks 2, light 3, snuff 4), its sums, how often, its test -/
abbrev Cl : Type := Nat × Option Mg × Option Mg × Option Mg × Nat × Option Tg
def cl0 : Cl := (0, none, none, none, 0, none)
def pB {α β : Type} (r : pR α) (d : β) (f : α → Nat → Nat → pR β) : pR β := if r.1 = true then f r.2.2.2 r.2.1 r.2.2.1 else (false, r.2.1, r.2.2.1, d)
section PC
variable (cs vs : Nat → Nat) (isV : Nat → Bool) (n : Nat)
def pMp {α β : Type} (g : α → β) (r : pR α) : pR β := (r.1, r.2.1, r.2.2.1, g r.2.2.2)
def pIf (i lv : Nat) : pR (Option Tg) := if cs i = 4 then pMp some (pTest cs vs isV 8 (i + 1) lv) else (true, i, lv, none)
def pHd (i lv : Nat) : pR (Nat × Option Mg) := if cs i = 2 ∨ cs i = 3 then pMp (fun m => (cs i - 1, some m)) (pSum cs vs isV 8 (i + 1) lv) else if cs i = 1 then (true, i + 1, lv, 0, none) else pFail i lv (0, none)
def pLaw (i lv : Nat) : pR Cl := pB (pHd cs vs isV i lv) cl0 fun a j l => pMp (fun t => (a.1, a.2, none, none, 1, t)) (pIf cs vs isV j l)
def pVerb (i lv : Nat) : pR Nat := if cs i = 21 then (true, i + 1, lv, 3) else if cs i = 22 then (true, i + 1, lv, 4) else pFail i lv 0
def pTok (c i lv : Nat) : pR Unit := if cs i = c then (true, i + 1, lv, ()) else pFail i lv ()
def pEach (i lv : Nat) : pR (Option Mg) := if cs i = 24 then pMp some (pSum cs vs isV 8 (i + 1) lv) else (true, i, lv, none)
def pTimes (i lv : Nat) : pR Nat := if cs i = 25 then (if cs (i + 1) = 50 ∧ 1 ≤ vs (i + 1) ∧ vs (i + 1) ≤ 20 then (true, i + 2, lv, vs (i + 1)) else pFail (i + 1) lv 1) else (true, i, lv, 1)
def pRnd (i lv : Nat) : pR Cl := pB (pVerb cs i lv) cl0 fun v j l => pB (pSum cs vs isV 8 j l) cl0 fun m j l => pB (pTok cs 23 j l) cl0 fun _ j l => pB (pSum cs vs isV 8 j l) cl0 fun a j l => pB (pEach cs vs isV j l) cl0 fun e j l => pB (pTimes cs vs j l) cl0 fun k j l => pMp (fun t => (v, some m, some a, e, k, t)) (pIf cs vs isV j l)
/-- a text: so many clauses more -/
def pTx (one : Nat → Nat → pR Cl) : Nat → List Cl → Nat → Nat → pR (List Cl)
  | 0, acc, i, lv => (false, i, lv, acc)
  | k + 1, acc, i, lv => pB (one i lv) acc fun c j l => if cs j = 159 then pTx one k (acc ++ [c]) (j + 1) l else if n ≤ j then (true, j, l, acc ++ [c]) else (false, j, l, acc)
end PC
/-! ## where it may stand -/
/-- as lvO, but it may stay -/
def lvP {α : Type} (n : Nat) (f : Nat → Nat → pR α) : Prop := ∀ i lv, i ≤ n → lv ≤ 50 → (f i lv).2.1 ≤ n ∧ i ≤ (f i lv).2.1 ∧ ((f i lv).1 = true → lv ≤ (f i lv).2.2.1 ∧ (f i lv).2.2.1 ≤ 50)
theorem lvO.p {α : Type} {n : Nat} {f : Nat → Nat → pR α} (h : lvO n f) : lvP n f := fun i lv hi hl => ⟨(h i lv hi hl).1, (h i lv hi hl).2.1, fun e => ((h i lv hi hl).2.2 e).2⟩
theorem lvP_B {α β : Type} {n : Nat} {f : Nat → Nat → pR α} {d : β} {g : α → Nat → Nat → pR β} (h1 : lvP n f) (h2 : ∀ a, lvP n (g a)) : lvP n (fun i lv => pB (f i lv) d g) := by
  intro i lv hi hl
  obtain ⟨e1, e2, e3⟩ := h1 i lv hi hl
  dsimp only
  unfold pB
  by_cases c : (f i lv).1 = true
  · rw [if_pos c]
    obtain ⟨g1, g2, g3⟩ := h2 (f i lv).2.2.2 (f i lv).2.1 (f i lv).2.2.1 e1 (e3 c).2
    exact ⟨g1, by omega, fun q => ⟨by have := (g3 q).1; have := (e3 c).1; omega, (g3 q).2⟩⟩
  · rw [if_neg c]
    exact ⟨e1, e2, fun q => absurd (show false = true from q) (by decide)⟩
section PD
variable {cs vs : Nat → Nat} {isV : Nat → Bool} {n : Nat}
theorem lt_n {i : Nat} (h0 : cs n = 0) (hi : i ≤ n) (h : cs i ≠ 0) : i < n := by
  rcases Nat.lt_or_ge i n with q | q
  · exact q
  · have : i = n := by omega
    subst this
    exact absurd h0 h
theorem lvP_mp {α β : Type} {g : α → β} {f : Nat → Nat → pR α} (h : lvP n f) : lvP n (fun i lv => pMp g (f i lv)) := h
theorem pIf_ok (h0 : cs n = 0) (hV : isV 0 = false) : lvP n (pIf cs vs isV) := by
  intro i lv hi hl
  unfold pIf
  by_cases c : cs i = 4
  · rw [if_pos c]
    have := lt_n h0 hi (by omega)
    obtain ⟨e1, e2, e3⟩ := (pTest_ok (vs := vs) h0 hV 8).p (i + 1) lv this hl
    exact ⟨e1, by show i ≤ (pTest cs vs isV 8 (i + 1) lv).2.1; omega, e3⟩
  · rw [if_neg c]
    exact ⟨hi, Nat.le_refl _, fun _ => ⟨Nat.le_refl _, hl⟩⟩
theorem pHd_ok (h0 : cs n = 0) (hV : isV 0 = false) : lvP n (pHd cs vs isV) := by
  intro i lv hi hl
  unfold pHd
  by_cases c : cs i = 2 ∨ cs i = 3
  · rw [if_pos c]
    have := lt_n h0 hi (by omega)
    obtain ⟨e1, e2, e3⟩ := (pSum_ok (vs := vs) h0 hV 8).p (i + 1) lv this hl
    exact ⟨e1, by show i ≤ (pSum cs vs isV 8 (i + 1) lv).2.1; omega, e3⟩
  · rw [if_neg c]
    by_cases c2 : cs i = 1
    · rw [if_pos c2]
      exact ⟨lt_n h0 hi (by omega), Nat.le_succ _, fun _ => ⟨Nat.le_refl _, hl⟩⟩
    · rw [if_neg c2]
      exact ⟨hi, Nat.le_refl _, fun _ => ⟨Nat.le_refl _, hl⟩⟩
theorem pVerb_ok (h0 : cs n = 0) : lvP n (pVerb cs) := by
  intro i lv hi hl
  unfold pVerb
  by_cases c : cs i = 21
  · rw [if_pos c]
    exact ⟨lt_n h0 hi (by omega), Nat.le_succ _, fun _ => ⟨Nat.le_refl _, hl⟩⟩
  · rw [if_neg c]
    by_cases c2 : cs i = 22
    · rw [if_pos c2]
      exact ⟨lt_n h0 hi (by omega), Nat.le_succ _, fun _ => ⟨Nat.le_refl _, hl⟩⟩
    · rw [if_neg c2]
      exact ⟨hi, Nat.le_refl _, fun _ => ⟨Nat.le_refl _, hl⟩⟩
theorem pTok_ok {c : Nat} (h0 : cs n = 0) (hc : c ≠ 0) : lvP n (pTok cs c) := by
  intro i lv hi hl
  unfold pTok
  by_cases c : cs i = c
  · rw [if_pos c]
    exact ⟨lt_n h0 hi (by omega), Nat.le_succ _, fun _ => ⟨Nat.le_refl _, hl⟩⟩
  · rw [if_neg c]
    exact ⟨hi, Nat.le_refl _, fun _ => ⟨Nat.le_refl _, hl⟩⟩
theorem pEach_ok (h0 : cs n = 0) (hV : isV 0 = false) : lvP n (pEach cs vs isV) := by
  intro i lv hi hl
  unfold pEach
  by_cases c : cs i = 24
  · rw [if_pos c]
    have := lt_n h0 hi (by omega)
    obtain ⟨e1, e2, e3⟩ := (pSum_ok (vs := vs) h0 hV 8).p (i + 1) lv this hl
    exact ⟨e1, by show i ≤ (pSum cs vs isV 8 (i + 1) lv).2.1; omega, e3⟩
  · rw [if_neg c]
    exact ⟨hi, Nat.le_refl _, fun _ => ⟨Nat.le_refl _, hl⟩⟩
theorem pTimes_ok (h0 : cs n = 0) : lvP n (pTimes cs vs) := by
  intro i lv hi hl
  unfold pTimes
  by_cases c : cs i = 25
  · rw [if_pos c]
    have := lt_n h0 hi (by omega)
    by_cases c2 : cs (i + 1) = 50 ∧ 1 ≤ vs (i + 1) ∧ vs (i + 1) ≤ 20
    · rw [if_pos c2]
      exact ⟨lt_n h0 this (by omega), by show i ≤ i + 2; omega, fun _ => ⟨Nat.le_refl _, hl⟩⟩
    · rw [if_neg c2]
      exact ⟨this, Nat.le_succ _, fun _ => ⟨Nat.le_refl _, hl⟩⟩
  · rw [if_neg c]
    exact ⟨hi, Nat.le_refl _, fun _ => ⟨Nat.le_refl _, hl⟩⟩
theorem pLaw_ok (h0 : cs n = 0) (hV : isV 0 = false) : lvP n (pLaw cs vs isV) := lvP_B (pHd_ok h0 hV) (fun _ => lvP_mp (pIf_ok h0 hV))
theorem pRnd_ok (h0 : cs n = 0) (hV : isV 0 = false) : lvP n (pRnd cs vs isV) :=
  lvP_B (pVerb_ok h0) (fun _ => lvP_B (pSum_ok h0 hV 8).p (fun _ => lvP_B (pTok_ok h0 (by decide)) (fun _ => lvP_B (pSum_ok h0 hV 8).p (fun _ => lvP_B (pEach_ok h0 hV) (fun _ => lvP_B (pTimes_ok h0) (fun _ => lvP_mp (pIf_ok h0 hV)))))))
end PD
/-! ## the model's reader of clauses -/
section RD
variable {cs vs pl : Nat → Nat} {isV : Nat → Bool} {n : Nat} {h0 h : ah_T}
theorem pst_B {α β : Type} {r : pR α} {d : β} {f : α → Nat → Nat → pR β} (p : pst pl h0 r h) (e : r.1 = false) : pst pl h0 (pB r d f) h := by
  unfold pB
  rw [if_neg (by rw [e]; decide)]
  exact ⟨fun q => absurd (show false = true from q) (by decide), fun _ => p.2 e⟩
theorem pB_t {α β : Type} {r : pR α} {d : β} {f : α → Nat → Nat → pR β} (e : r.1 = true) : pB r d f = f r.2.2.2 r.2.1 r.2.2.1 := if_pos e
theorem pB_pMp {α β γ : Type} (k : α → β) (r : pR α) (d : γ) (g : β → Nat → Nat → pR γ) : pB (pMp k r) d g = pB r d (fun a i l => g (k a) i l) := rfl
theorem pB_f {α β : Type} {r : pR α} {d : β} {f : α → Nat → Nat → pR β} (e : r.1 = false) : pB r d f = (false, r.2.1, r.2.2.1, d) := if_neg (by rw [e]; decide)
theorem pst_F {α β : Type} {r : pR α} {r' : pR β} (p : pst pl h0 r h) (e : r.1 = false) (e1 : r'.1 = false) (e2 : r'.2.1 = r.2.1) : pst pl h0 r' h := ⟨fun q => absurd q (by rw [e1]; decide), fun _ => by rw [e2]; exact p.2 e⟩
theorem pst_mF {β : Type} {r' : pR β} {i : Nat} (p : mF h0 h (pl i)) (e1 : r'.1 = false) (e2 : r'.2.1 = i) : pst pl h0 r' h := ⟨fun q => absurd q (by rw [e1]; decide), fun _ => by rw [e2]; exact p⟩
/-- its if, then the end -/
abbrev ifK (Q : Option Value → ah_T → Prop) (h : ah_T) : Prop := Mt mX12_takes0 [.ref 82, .int 4] h (ab_qi fun v10 h8 => Sh h8 ∧ ((v10 = 0 → Q none h8) ∧ (¬ v10 = 0 → (Mt (mX12_readTest 60) [.ref 82, .int 0] h8 (ab_qv fun h12 => Sh h12 ∧ Q none h12)))))
theorem mt_ifS {Q : Option Value → ah_T → Prop} {i lv : Nat} (t : Tk cs vs pl isV n h0) (q : mS h0 h i lv) (hi : i ≤ n) (hl : lv ≤ 50) (k : ∀ h', pst pl h0 (pIf cs vs isV i lv) h' → Q none h') : ifK Q h := by
  unfold pIf at k
  refine mt_takesS t q hi (k := 4) rfl (by omega) (fun c h' w => ⟨_, rfl, w.1.1, ?_⟩) (fun c => ⟨_, rfl, q.1.1, ?_⟩)
  · (first | refine ⟨fun _ => ?_, fun n_ => absurd (show ¬ (1 : Int32) = 0 by decide) n_⟩ | refine ⟨fun n_ => absurd (show ¬ (1 : Int32) = 0 by decide) n_, fun _ => ?_⟩ | refine ⟨fun y_ => absurd y_ (show ¬ (1 : Int32) = 0 by decide), fun _ => ?_⟩ | refine ⟨fun _ => ?_, fun y_ => absurd y_ (show ¬ (1 : Int32) = 0 by decide)⟩)
    rw [if_pos c] at k
    exact (mr_Test t 8 60 (by omega) (by omega)).1 _ _ (i + 1) lv (lt_n t.2.1 hi (by omega)) hl w (fun h2 p => ⟨rfl, pst_Sh p, k h2 p⟩)
  · (first | refine ⟨fun _ => ?_, fun n_ => absurd (show (0 : Int32) = 0 by rfl) n_⟩ | refine ⟨fun n_ => absurd (show (0 : Int32) = 0 by rfl) n_, fun _ => ?_⟩ | refine ⟨fun y_ => absurd y_ (show (0 : Int32) = 0 by rfl), fun _ => ?_⟩ | refine ⟨fun _ => ?_, fun y_ => absurd y_ (show (0 : Int32) = 0 by rfl)⟩)
    rw [if_neg c] at k
    exact k h ⟨fun _ => q, fun e => absurd (show true = false from e) (by decide)⟩
theorem mt_ifF {Q : Option Value → ah_T → Prop} {p : Nat} (q : mF h0 h p) (k : Q none h) : ifK Q h := by
  refine mt_takesF q ⟨_, rfl, q.1.1, ?_⟩
  (first | refine ⟨fun _ => ?_, fun n_ => absurd (show (0 : Int32) = 0 by rfl) n_⟩ | refine ⟨fun n_ => absurd (show (0 : Int32) = 0 by rfl) n_, fun _ => ?_⟩ | refine ⟨fun y_ => absurd y_ (show (0 : Int32) = 0 by rfl), fun _ => ?_⟩ | refine ⟨fun _ => ?_, fun y_ => absurd y_ (show (0 : Int32) = 0 by rfl)⟩)
  exact k
/-- a method without arguments reads as f does -/
def mRn {α : Type} (cs vs pl : Nat → Nat) (isV : Nat → Bool) (n : Nat) (h0 : ah_T) (M : ab_M) (f : Nat → Nat → pR α) : Prop :=
  ∀ (Q : Option Value → ah_T → Prop) (h : ah_T) (i lv : Nat), i ≤ n → lv ≤ 50 → mS h0 h i lv → (∀ h', pst pl h0 (f i lv) h' → Q none h') → Mt M [.ref 82] h Q
theorem mr_clause (t : Tk cs vs pl isV n h0) : mRn cs vs pl isV n h0 mX12_readClause (pLaw cs vs isV) := by
  intro Q h i lv hi hl q k
  have SU := mr_Sum t 8 60 (by omega) (by omega)
  unfold pLaw at k
  have sumK : ∀ h1, cs i = 2 ∨ cs i = 3 → mS h0 h1 (i + 1) lv → Mt (mX12_readSum 60) [.ref 82, .int 0] h1 (ab_qv fun h29 => Sh h29 ∧ ifK Q h29) := by
    intro h1 c w
    have hd : pHd cs vs isV i lv = pMp (fun m => (cs i - 1, some m)) (pSum cs vs isV 8 (i + 1) lv) := by unfold pHd; rw [if_pos c]
    have hin := lt_n t.2.1 hi (show cs i ≠ 0 by omega)
    refine SU.1 _ _ (i + 1) lv hin hl w (fun h2 p => ⟨rfl, pst_Sh p, ?_⟩)
    obtain ⟨e1, e2, e3⟩ := pSum_ok (vs := vs) t.2.1 t.2.2.1 8 (i + 1) lv hin hl
    cases e : (pSum cs vs isV 8 (i + 1) lv).1
    · refine mt_ifF (p.2 e) (k h2 ?_)
      rw [hd, pB_pMp, pB_f e]
      exact pst_F p e rfl rfl
    · obtain ⟨e4, e5, e6⟩ := e3 e
      refine mt_ifS t (p.1 e) e1 e6 (fun h3 p3 => k h3 ?_)
      rw [hd, pB_pMp, pB_t e]
      exact p3
  refine T_X12_readClause q.1.1 (mt_takesS t q hi (k := 2) rfl (by omega) (fun c h' w => ⟨_, rfl, w.1.1, ?_⟩) (fun c => ⟨_, rfl, q.1.1, ?_⟩))
  · (first | refine ⟨fun _ => ?_, fun n_ => absurd (show ¬ (1 : Int32) = 0 by decide) n_⟩ | refine ⟨fun n_ => absurd (show ¬ (1 : Int32) = 0 by decide) n_, fun _ => ?_⟩ | refine ⟨fun y_ => absurd y_ (show ¬ (1 : Int32) = 0 by decide), fun _ => ?_⟩ | refine ⟨fun _ => ?_, fun y_ => absurd y_ (show ¬ (1 : Int32) = 0 by decide)⟩)
    exact sumK h' (.inl c) w
  · (first | refine ⟨fun _ => ?_, fun n_ => absurd (show (0 : Int32) = 0 by rfl) n_⟩ | refine ⟨fun n_ => absurd (show (0 : Int32) = 0 by rfl) n_, fun _ => ?_⟩ | refine ⟨fun y_ => absurd y_ (show (0 : Int32) = 0 by rfl), fun _ => ?_⟩ | refine ⟨fun _ => ?_, fun y_ => absurd y_ (show (0 : Int32) = 0 by rfl)⟩)
    refine mt_takesS t q hi (k := 3) rfl (by omega) (fun c h' w => ⟨_, rfl, w.1.1, ?_⟩) (fun c2 => ⟨_, rfl, q.1.1, ?_⟩)
    · (first | refine ⟨fun _ => ?_, fun n_ => absurd (show ¬ (1 : Int32) = 0 by decide) n_⟩ | refine ⟨fun n_ => absurd (show ¬ (1 : Int32) = 0 by decide) n_, fun _ => ?_⟩ | refine ⟨fun y_ => absurd y_ (show ¬ (1 : Int32) = 0 by decide), fun _ => ?_⟩ | refine ⟨fun _ => ?_, fun y_ => absurd y_ (show ¬ (1 : Int32) = 0 by decide)⟩)
      exact sumK h' (.inr c) w
    · (first | refine ⟨fun _ => ?_, fun n_ => absurd (show (0 : Int32) = 0 by rfl) n_⟩ | refine ⟨fun n_ => absurd (show (0 : Int32) = 0 by rfl) n_, fun _ => ?_⟩ | refine ⟨fun y_ => absurd y_ (show (0 : Int32) = 0 by rfl), fun _ => ?_⟩ | refine ⟨fun _ => ?_, fun y_ => absurd y_ (show (0 : Int32) = 0 by rfl)⟩)
      have c3 : ¬ (cs i = 2 ∨ cs i = 3) := by omega
      refine mt_mustS t q hi (k := 1) rfl (by omega) (fun c h' w => ⟨rfl, w.1.1, ?_⟩) (fun c h' w => ⟨rfl, w.1.1, ?_⟩)
      · have hd : pHd cs vs isV i lv = (true, i + 1, lv, 0, none) := by unfold pHd; rw [if_neg c3, if_pos c]
        refine mt_ifS t w (lt_n t.2.1 hi (by omega)) hl (fun h3 p3 => k h3 ?_)
        rw [hd, pB_t rfl]
        exact p3
      · have hd : pHd cs vs isV i lv = pFail i lv (0, none) := by unfold pHd; rw [if_neg c3, if_neg c]
        refine mt_ifF w (k h' ?_)
        rw [hd, pB_f rfl]
        exact pst_mF w rfl rfl
end RD
