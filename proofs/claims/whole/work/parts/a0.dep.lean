/-! ===== what meanings look at ===== -/
section DV
variable {cs vs : Nat → Nat} {isV : Nat → Bool}
/-- it looks at the first eight words alone -/
def dV {α : Type} (m : (Nat → Int) → α) : Prop := ∀ w w' : Nat → Int, (∀ k, k < 8 → w k = w' k) → m w = m w'
def aM {α : Type} (P : α → Prop) (f : Nat → Nat → pR α) : Prop := ∀ i lv, (f i lv).1 = true → P (f i lv).2.2.2
theorem pCh_all {α : Type} {P : α → Prop} {elem : Nat → Nat → pR α} {isO : Nat → Bool} {op : Nat → α → α → α} (he : aM P elem) (ho : ∀ c x y, P x → P y → P (op c x y)) : ∀ (k : Nat) (x : α) (i lv : Nat), P x → (pCh cs elem isO op k x i lv).1 = true → P (pCh cs elem isO op k x i lv).2.2.2
  | 0, x, i, lv, hx, _ => hx
  | k + 1, x, i, lv, hx, h => by
    unfold pCh at h ⊢
    by_cases c : isO (cs i) = true
    · rw [if_pos c] at h ⊢
      by_cases c2 : (elem (i + 1) lv).1 = true
      · rw [if_pos c2] at h ⊢
        exact pCh_all he ho k _ _ _ (ho _ _ _ hx (he _ _ c2)) h
      · rw [if_neg c2] at h
        exact absurd h c2
    · rw [if_neg c]
      exact hx
theorem pChain_all {α : Type} {P : α → Prop} {elem : Nat → Nat → pR α} {isO : Nat → Bool} {op : Nat → α → α → α} (he : aM P elem) (ho : ∀ c x y, P x → P y → P (op c x y)) : aM P (pChain cs elem isO op) := by
  intro i lv h
  unfold pChain at h ⊢
  by_cases c : (elem i lv).1 = true
  · rw [if_pos c] at h ⊢
    exact pCh_all he ho _ _ _ _ (he _ _ c) h
  · rw [if_neg c] at h
    exact absurd h c
theorem dV_op (c : Nat) (x y : Mg) (h1 : dV x) (h2 : dV y) : dV (opM c x y) := fun w w' k => by unfold opM; rw [h1 w w' k, h2 w w' k]
theorem pPart_all (hV : ∀ c, isV c = true → 8 ≤ c ∧ c ≤ 15) {rec : Option (Nat → Nat → pR Mg)} (hr : ∀ f, rec = some f → aM dV f) : aM dV (pPart cs vs isV rec) := by
  intro i lv h
  unfold pPart at h ⊢
  by_cases c : cs i = 191
  · rw [if_pos c] at h ⊢
    cases rec with
    | none => exact absurd (show false = true from h) (by decide)
    | some f =>
      dsimp only at h ⊢
      by_cases c2 : (f (i + 1) lv).1 = true
      · rw [if_pos c2] at h ⊢
        by_cases c3 : cs (f (i + 1) lv).2.1 = 193
        · rw [if_pos c3]
          exact hr f rfl _ _ c2
        · rw [if_neg c3] at h
          exact absurd (show false = true from h) (by decide)
      · rw [if_neg c2] at h
        exact absurd h c2
  · rw [if_neg c] at h ⊢
    by_cases c2 : (cs i = 50 ∧ vs i ≤ 1000) ∨ isV (cs i) = true
    · rw [if_pos c2] at h ⊢
      by_cases c3 : lv = 50
      · rw [if_pos c3] at h
        exact absurd (show false = true from h) (by decide)
      · rw [if_neg c3]
        show dV (if cs i = 50 then (fun _ => some (vs i : Int)) else fun w => some (w (cs i - 8)))
        by_cases c4 : cs i = 50
        · rw [if_pos c4]
          exact fun _ _ _ => rfl
        · rw [if_neg c4]
          have := hV (cs i) (by
            rcases c2 with y | y
            · exact absurd y.1 c4
            · exact y)
          intro w w' k
          show some (w (cs i - 8)) = some (w' (cs i - 8))
          rw [k _ (by omega)]
    · rw [if_neg c2] at h
      exact absurd (show false = true from h) (by decide)
theorem pSum0_all (hV : ∀ c, isV c = true → 8 ≤ c ∧ c ≤ 15) {rec : Option (Nat → Nat → pR Mg)} (hr : ∀ f, rec = some f → aM dV f) : aM dV (pSum0 cs vs isV rec) :=
  pChain_all (pChain_all (pPart_all hV hr) dV_op) dV_op
theorem pSum_all (hV : ∀ c, isV c = true → 8 ≤ c ∧ c ≤ 15) : ∀ e, aM dV (pSum cs vs isV e)
  | 0 => pSum0_all hV (fun f q => by cases q)
  | e + 1 => pSum0_all hV (fun f q => by cases q; exact pSum_all hV e)
theorem dV_and (c : Nat) (x y : Tg) (h1 : dV x) (h2 : dV y) : dV ((fun _ => andT) c x y) := fun w w' k => by show andT x y w = andT x y w'; unfold andT; rw [h1 w w' k, h2 w w' k]
theorem dV_or (c : Nat) (x y : Tg) (h1 : dV x) (h2 : dV y) : dV ((fun _ => orT) c x y) := fun w w' k => by show orT x y w = orT x y w'; unfold orT; rw [h1 w w' k, h2 w w' k]
theorem pPos_all (hV : ∀ c, isV c = true → 8 ≤ c ∧ c ≤ 15) {e : Nat} {rec : Option (Nat → Nat → pR Tg)} (hr : ∀ f, rec = some f → aM dV f) : aM dV (pPos cs vs isV e rec) := by
  intro i lv h
  have hS := pSum_all (cs := cs) (vs := vs) hV e
  unfold pPos at h ⊢
  by_cases c : cs i = 140
  · rw [if_pos c] at h ⊢
    cases rec with
    | none => exact absurd (show false = true from h) (by decide)
    | some f =>
      dsimp only at h ⊢
      by_cases c2 : (f (i + 1) lv).1 = true
      · rw [if_pos c2] at h ⊢
        by_cases c3 : cs (f (i + 1) lv).2.1 = 141
        · rw [if_pos c3]
          exact hr f rfl _ _ c2
        · rw [if_neg c3] at h
          exact absurd (show false = true from h) (by decide)
      · rw [if_neg c2] at h
        exact absurd h c2
  · rw [if_neg c] at h ⊢
    by_cases c2 : (pSum cs vs isV e i lv).1 = true
    · rw [if_pos c2] at h ⊢
      by_cases c3 : isCmp (cs (pSum cs vs isV e i lv).2.1) = true
      · rw [if_pos c3] at h ⊢
        by_cases c4 : (pSum cs vs isV e ((pSum cs vs isV e i lv).2.1 + 1) (pSum cs vs isV e i lv).2.2.1).1 = true
        · rw [if_pos c4]
          have h1 := hS i lv c2
          have h2 := hS _ _ c4
          intro w w' k
          show cmpT _ _ _ w = cmpT _ _ _ w'
          unfold cmpT
          rw [h1 w w' k, h2 w w' k]
        · rw [if_neg c4] at h
          exact absurd (show false = true from h) (by decide)
      · rw [if_neg c3] at h
        exact absurd (show false = true from h) (by decide)
    · rw [if_neg c2] at h
      exact absurd (show false = true from h) (by decide)
theorem pPlain_all (hV : ∀ c, isV c = true → 8 ≤ c ∧ c ≤ 15) {e : Nat} {rec : Option (Nat → Nat → pR Tg)} (hr : ∀ f, rec = some f → aM dV f) : aM dV (pPlain cs vs isV e rec) := by
  intro i lv h
  have h1 := pPos_all (cs := cs) (vs := vs) hV (e := e) hr _ _ (show (pPos cs vs isV e rec (i + nots cs 401 i) lv).1 = true from h)
  intro w w' k
  show notT _ _ w = notT _ _ w'
  unfold notT
  rw [h1 w w' k]
theorem pTest0_all (hV : ∀ c, isV c = true → 8 ≤ c ∧ c ≤ 15) {e : Nat} {rec : Option (Nat → Nat → pR Tg)} (hr : ∀ f, rec = some f → aM dV f) : aM dV (pTest0 cs vs isV e rec) :=
  pChain_all (pChain_all (pPlain_all hV hr) dV_and) dV_or
theorem pTest_all (hV : ∀ c, isV c = true → 8 ≤ c ∧ c ≤ 15) : ∀ e, aM dV (pTest cs vs isV e)
  | 0 => pTest0_all hV (fun f q => by cases q)
  | e + 1 => pTest0_all hV (fun f q => by cases q; exact pTest_all hV e)
/-- a law's clause -/
def clL (cl : Cl) : Prop := cl.1 < 3 ∧ (cl.1 = 0 ↔ cl.2.1 = none) ∧ (∀ m, cl.2.1 = some m → dV m) ∧ ∀ t, cl.2.2.2.2.2 = some t → dV t
theorem pLaw_inv {i lv : Nat} (h : (pLaw cs vs isV i lv).1 = true) : ∃ H I, H = pHd cs vs isV i lv ∧ I = pIf cs vs isV H.2.1 H.2.2.1 ∧ H.1 = true ∧ I.1 = true ∧ pLaw cs vs isV i lv = (true, I.2.1, I.2.2.1, H.2.2.2.1, H.2.2.2.2, none, none, 1, I.2.2.2) := by
  unfold pLaw at h ⊢
  obtain ⟨h1, e1⟩ := pB_inv h
  rw [e1] at h ⊢
  refine ⟨_, _, rfl, rfl, h1, h, ?_⟩
  unfold pMp at h ⊢
  dsimp only at h ⊢
  rw [h]
theorem pLaw_L (hV : ∀ c, isV c = true → 8 ≤ c ∧ c ≤ 15) {i lv : Nat} (h : (pLaw cs vs isV i lv).1 = true) : clL (pLaw cs vs isV i lv).2.2.2 := by
  obtain ⟨H, I, e1, e2, h1, h2, e⟩ := pLaw_inv h
  rw [e]
  have hI : ∀ t, I.2.2.2 = some t → dV t := by
    intro t ht
    rw [e2] at ht h2
    unfold pIf at ht h2
    by_cases c : cs H.2.1 = 4
    · rw [if_pos c] at ht h2
      have := pTest_all (cs := cs) (vs := vs) hV 8 _ _ (show (pTest cs vs isV 8 (H.2.1 + 1) H.2.2.1).1 = true from h2)
      cases (Option.some.inj ht : (pTest cs vs isV 8 (H.2.1 + 1) H.2.2.1).2.2.2 = t)
      exact this
    · rw [if_neg c] at ht
      exact (nomatch ht)
  have hH : H.2.2.2.1 < 3 ∧ (H.2.2.2.1 = 0 ↔ H.2.2.2.2 = none) ∧ ∀ m, H.2.2.2.2 = some m → dV m := by
    rw [e1] at h1 ⊢
    unfold pHd at h1 ⊢
    by_cases c : cs i = 2 ∨ cs i = 3
    · rw [if_pos c] at h1 ⊢
      refine ⟨show cs i - 1 < 3 by omega, ⟨fun y => ?_, fun y => (nomatch y)⟩, fun m hm => ?_⟩
      · have y' : cs i - 1 = 0 := y
        omega
      · have := pSum_all (cs := cs) (vs := vs) hV 8 _ _ (show (pSum cs vs isV 8 (i + 1) lv).1 = true from h1)
        cases (Option.some.inj hm : (pSum cs vs isV 8 (i + 1) lv).2.2.2 = m)
        exact this
    · rw [if_neg c] at h1 ⊢
      by_cases c2 : cs i = 1
      · rw [if_pos c2]
        exact ⟨(by decide : (0 : Nat) < 3), ⟨fun _ => rfl, fun _ => rfl⟩, fun m hm => (nomatch hm)⟩
      · rw [if_neg c2] at h1
        exact absurd (show false = true from h1) (by decide)
  exact ⟨hH.1, hH.2.1, hH.2.2, hI⟩
end DV
theorem lwR_L {cs vs : Nat → Nat} {n : Nat} (e : (lwR cs vs n).1 = true) : (lwR cs vs n).2.2.2 = pTl (trn n cs) (pLaw (trn n cs) (trn n vs) (isVof false)) 12 0 0 ∧ ∀ c ∈ (lwR cs vs n).2.2.2, clL c := by
  have h1 : (lwR cs vs n).2.2.2 = pTl (trn n cs) (pLaw (trn n cs) (trn n vs) (isVof false)) 12 0 0 := pTl_eq (n := n) 12 0 0 [] e
  exact ⟨h1, by rw [h1]; exact pTl_all (n := n) (fun i lv h => pLaw_L (fun c hc => of_decide_eq_true hc) h) 12 0 0 [] e⟩
/-! ## answers -/
def hold (c : Cl) (w : Nat → Int) : Option Int := if pass c w = true then (match c.2.1 with | none => some 1 | some m => m w) else none
def clamp9 (v : Int) : Int := if v < 0 then 0 else if 9 < v then 9 else v
/-- what a law's clauses tell of a verb, the last that holds -/
def tell9 (what : Nat) (w : Nat → Int) : List Cl → Int → Int
  | [], d => d
  | c :: r, d => tell9 what w r (if c.1 = what then (match hold c w with | none => d | some v => clamp9 v) else d)
theorem tell9_app (what : Nat) (w : Nat → Int) : ∀ (l : List Cl) (c : Cl) (d : Int), tell9 what w (l ++ [c]) d = if c.1 = what then (match hold c w with | none => tell9 what w l d | some v => clamp9 v) else tell9 what w l d
  | [], c, d => rfl
  | a :: r, c, d => by
    show tell9 what w (r ++ [c]) _ = _
    rw [tell9_app what w r c]
    rfl
theorem clamp9_in (v : Int) : 0 ≤ clamp9 v ∧ clamp9 v ≤ 9 := by unfold clamp9; split; omega; split <;> omega
theorem tell9_in (what : Nat) (w : Nat → Int) : ∀ (l : List Cl) (d : Int), 0 ≤ d → d ≤ 9 → 0 ≤ tell9 what w l d ∧ tell9 what w l d ≤ 9
  | [], d, h1, h2 => ⟨h1, h2⟩
  | c :: r, d, h1, h2 => by
    refine tell9_in what w r _ ?_ ?_
    · split
      · split
        · exact h1
        · exact (clamp9_in _).1
      · exact h1
    · split
      · split
        · exact h2
        · exact (clamp9_in _).2
      · exact h2
theorem hold_eq {c : Cl} {w w' : Nat → Int} (h1 : ∀ m, c.2.1 = some m → m w = m w') (h2 : ∀ t, c.2.2.2.2.2 = some t → t w = t w') : hold c w = hold c w' := by
  have p : pass c w = pass c w' := by
    unfold pass
    cases e : c.2.2.2.2.2 with
    | none => rfl
    | some t => dsimp only; rw [h2 t e]
  unfold hold
  rw [p]
  cases e : c.2.1 with
  | none => rfl
  | some m => dsimp only; rw [h1 m e]
theorem tell9_eq {what : Nat} {w w' : Nat → Int} : ∀ (l : List Cl) (d : Int), (∀ c ∈ l, c.1 = what → hold c w = hold c w') → tell9 what w l d = tell9 what w' l d
  | [], d, _ => rfl
  | c :: r, d, h => by
    show tell9 what w r _ = tell9 what w' r _
    rw [tell9_eq r _ (fun x hx => h x (List.mem_cons_of_mem _ hx))]
    by_cases e : c.1 = what
    · rw [if_pos e, if_pos e, h c List.mem_cons_self e]
    · rw [if_neg e, if_neg e]
/-- the words of a law -/
def wQ (l k o ne la mi : Int) (wi mo : Nat) : Nat → Int := fun j => if j = 0 then l else if j = 1 then k else if j = 2 then o else if j = 3 then ne else if j = 4 then la else if j = 5 then mi else if j = 6 then wi else if j = 7 then mo else 0
/-- whom one shuns, how far one reaches (1), what one drinks (2) by a law -/
def ansS (L : Option (List Cl)) (w : Nat → Int) : Bool := match L with
  | none => decide (w 1 = w 2 ∧ (w 3 = 0 ∨ w 3 = 1))
  | some cls => decide (tell9 0 w cls 0 = 1)
def ansN (L : Option (List Cl)) (what : Nat) (w : Nat → Int) : Int := match L with
  | none => 1
  | some cls => tell9 what w cls 1
theorem tell9_0 (w : Nat → Int) : ∀ (l : List Cl) (d : Int), (∀ c ∈ l, clL c) → (d = 0 ∨ d = 1) → tell9 0 w l d = 0 ∨ tell9 0 w l d = 1
  | [], d, _, hd => hd
  | c :: r, d, h, hd => by
    refine tell9_0 w r _ (fun x hx => h x (List.mem_cons_of_mem _ hx)) ?_
    by_cases e : c.1 = 0
    · rw [if_pos e]
      have hn := (h c List.mem_cons_self).2.1.mp e
      unfold hold
      rw [hn]
      by_cases p : pass c w = true
      · rw [if_pos p]; exact .inr rfl
      · rw [if_neg p]; exact hd
    · rw [if_neg e]; exact hd
