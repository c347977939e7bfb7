/-! ===== the language: a parse of tokens, with what it means ===== -/
/-- a meaning: words by their numbers; none is broken -/
abbrev Mg : Type := (Nat → Int) → Option Int
abbrev Tg : Type := (Nat → Int) → Option Bool
/-- ok, where it stands, how many leaves -/
abbrev pR (α : Type) : Type := Bool × Nat × Nat × α
def bnd (v : Int) : Option Int := if 1000000000 < v ∨ v < -1000000000 then none else some v
/-- signs: + 143, - 145, * 142, / 147, % 137 -/
def opM (c : Nat) (f g : Mg) : Mg := fun w => match f w with
  | none => none
  | some a => match g w with
    | none => none
    | some b => if c = 143 then bnd (a + b) else if c = 145 then bnd (a - b) else if c = 142 then bnd (a * b) else if b = 0 then none else if c = 147 then bnd (a.tdiv b) else bnd (a.tmod b)
def orT (f g : Tg) : Tg := fun w => match f w with
  | none => none
  | some a => if a then some true else g w
def andT (f g : Tg) : Tg := fun w => match f w with
  | none => none
  | some a => if a then g w else some false
def notT (b : Bool) (f : Tg) : Tg := fun w => match f w with
  | none => none
  | some a => some (if b then !a else a)
/-- < 160, > 162, = 161 -/
def cmpT (c : Nat) (f g : Mg) : Tg := fun w => match f w with
  | none => none
  | some a => match g w with
    | none => none
    | some b => some (if c = 160 then decide (a < b) else if c = 162 then decide (b < a) else decide (a = b))
section PA
variable (cs vs : Nat → Nat) (isV : Nat → Bool)
def pFail {α : Type} (i lv : Nat) (x : α) : pR α := (false, i, lv, x)
def mg0 : Mg := fun _ => none
def tg0 : Tg := fun _ => none
def pPart (rec : Option (Nat → Nat → pR Mg)) (i lv : Nat) : pR Mg :=
  if cs i = 191 then match rec with
    | none => pFail i lv mg0
    | some f => if (f (i + 1) lv).1 = true then (if cs (f (i + 1) lv).2.1 = 193 then (true, (f (i + 1) lv).2.1 + 1, (f (i + 1) lv).2.2.1, (f (i + 1) lv).2.2.2) else pFail (f (i + 1) lv).2.1 (f (i + 1) lv).2.2.1 mg0) else f (i + 1) lv
  else if (cs i = 50 ∧ vs i ≤ 1000) ∨ isV (cs i) = true then (if lv = 50 then pFail i lv mg0 else (true, i + 1, lv + 1, if cs i = 50 then (fun _ => some (vs i : Int)) else fun w => some (w (cs i - 8))))
  else pFail i lv mg0
/-- behind an element: as long as an operator comes, another element -/
def pCh {α : Type} (elem : Nat → Nat → pR α) (isO : Nat → Bool) (op : Nat → α → α → α) : Nat → α → Nat → Nat → pR α
  | 0, x, i, lv => (true, i, lv, x)
  | k + 1, x, i, lv => if isO (cs i) = true then (if (elem (i + 1) lv).1 = true then pCh elem isO op k (op (cs i) x (elem (i + 1) lv).2.2.2) (elem (i + 1) lv).2.1 (elem (i + 1) lv).2.2.1 else elem (i + 1) lv) else (true, i, lv, x)
def pChain {α : Type} (elem : Nat → Nat → pR α) (isO : Nat → Bool) (op : Nat → α → α → α) (i lv : Nat) : pR α :=
  if (elem i lv).1 = true then pCh cs elem isO op 401 (elem i lv).2.2.2 (elem i lv).2.1 (elem i lv).2.2.1 else elem i lv
def isMul (c : Nat) : Bool := c == 142 || c == 147 || c == 137
def isAdd (c : Nat) : Bool := c == 143 || c == 145
def pTerm (rec : Option (Nat → Nat → pR Mg)) : Nat → Nat → pR Mg := pChain cs (pPart cs vs isV rec) isMul opM
def pSum0 (rec : Option (Nat → Nat → pR Mg)) : Nat → Nat → pR Mg := pChain cs (pTerm cs vs isV rec) isAdd opM
/-- a sum with so many brackets left -/
def pSum : Nat → Nat → Nat → pR Mg
  | 0 => pSum0 cs vs isV none
  | e + 1 => pSum0 cs vs isV (some (pSum e))
def recOf (e : Nat) : Option (Nat → Nat → pR Mg) := match e with
  | 0 => none
  | e + 1 => some (pSum cs vs isV e)
theorem pSum_eq (e : Nat) : pSum cs vs isV e = pSum0 cs vs isV (recOf cs vs isV e) := by cases e <;> rfl
/-- how many nots stand from i on -/
def nots : Nat → Nat → Nat
  | 0, _ => 0
  | k + 1, i => if cs i = 7 then nots k (i + 1) + 1 else 0
def isCmp (c : Nat) : Bool := c == 160 || c == 162 || c == 161
/-- behind the nots -/
def pPos (e : Nat) (rec : Option (Nat → Nat → pR Tg)) (i lv : Nat) : pR Tg :=
  if cs i = 140 then match rec with
    | none => pFail i lv tg0
    | some f => if (f (i + 1) lv).1 = true then (if cs (f (i + 1) lv).2.1 = 141 then (true, (f (i + 1) lv).2.1 + 1, (f (i + 1) lv).2.2.1, (f (i + 1) lv).2.2.2) else pFail (f (i + 1) lv).2.1 (f (i + 1) lv).2.2.1 tg0) else f (i + 1) lv
  else if (pSum cs vs isV e i lv).1 = true then
    (if isCmp (cs (pSum cs vs isV e i lv).2.1) = true then
      (if (pSum cs vs isV e ((pSum cs vs isV e i lv).2.1 + 1) (pSum cs vs isV e i lv).2.2.1).1 = true then
        (true, (pSum cs vs isV e ((pSum cs vs isV e i lv).2.1 + 1) (pSum cs vs isV e i lv).2.2.1).2.1, (pSum cs vs isV e ((pSum cs vs isV e i lv).2.1 + 1) (pSum cs vs isV e i lv).2.2.1).2.2.1, cmpT (cs (pSum cs vs isV e i lv).2.1) (pSum cs vs isV e i lv).2.2.2 (pSum cs vs isV e ((pSum cs vs isV e i lv).2.1 + 1) (pSum cs vs isV e i lv).2.2.1).2.2.2)
      else pFail (pSum cs vs isV e ((pSum cs vs isV e i lv).2.1 + 1) (pSum cs vs isV e i lv).2.2.1).2.1 50 tg0)
    else pFail (pSum cs vs isV e i lv).2.1 50 tg0)
  else pFail (pSum cs vs isV e i lv).2.1 50 tg0
def pPlain (e : Nat) (rec : Option (Nat → Nat → pR Tg)) (i lv : Nat) : pR Tg :=
  ((pPos cs vs isV e rec (i + nots cs 401 i) lv).1, (pPos cs vs isV e rec (i + nots cs 401 i) lv).2.1, (pPos cs vs isV e rec (i + nots cs 401 i) lv).2.2.1, notT (nots cs 401 i % 2 == 1) (pPos cs vs isV e rec (i + nots cs 401 i) lv).2.2.2)
def pBoth (e : Nat) (rec : Option (Nat → Nat → pR Tg)) : Nat → Nat → pR Tg := pChain cs (pPlain cs vs isV e rec) (fun c => c == 6) (fun _ => andT)
def pTest0 (e : Nat) (rec : Option (Nat → Nat → pR Tg)) : Nat → Nat → pR Tg := pChain cs (pBoth cs vs isV e rec) (fun c => c == 5) (fun _ => orT)
def pTest : Nat → Nat → Nat → pR Tg
  | 0 => pTest0 cs vs isV 0 none
  | e + 1 => pTest0 cs vs isV (e + 1) (some (pTest e))
def recT (e : Nat) : Option (Nat → Nat → pR Tg) := match e with
  | 0 => none
  | e + 1 => some (pTest cs vs isV e)
theorem pTest_eq (e : Nat) : pTest cs vs isV e = pTest0 cs vs isV e (recT cs vs isV e) := by cases e <;> rfl
/-! ## where it may stand -/
/-- an element goes on, and not behind the end -/
def lvO {α : Type} (n : Nat) (f : Nat → Nat → pR α) : Prop := ∀ i lv, i ≤ n → lv ≤ 50 → (f i lv).2.1 ≤ n ∧ i ≤ (f i lv).2.1 ∧ ((f i lv).1 = true → i < (f i lv).2.1 ∧ lv ≤ (f i lv).2.2.1 ∧ (f i lv).2.2.1 ≤ 50)
variable {cs vs isV} {n : Nat}
theorem pCh_ok {α : Type} {elem : Nat → Nat → pR α} {isO : Nat → Bool} {op : Nat → α → α → α} (h0 : isO (cs n) = false) (he : lvO n elem) : ∀ (k : Nat) (x : α) (i lv : Nat), i ≤ n → lv ≤ 50 → (pCh cs elem isO op k x i lv).2.1 ≤ n ∧ i ≤ (pCh cs elem isO op k x i lv).2.1 ∧ ((pCh cs elem isO op k x i lv).1 = true → lv ≤ (pCh cs elem isO op k x i lv).2.2.1 ∧ (pCh cs elem isO op k x i lv).2.2.1 ≤ 50)
  | 0, x, i, lv, hi, hl => ⟨hi, Nat.le_refl _, fun _ => ⟨Nat.le_refl _, hl⟩⟩
  | k + 1, x, i, lv, hi, hl => by
    unfold pCh
    by_cases c : isO (cs i) = true
    · have hin : i < n := by
        rcases Nat.lt_or_ge i n with q | q
        · exact q
        · have : i = n := by omega
          subst this
          rw [h0] at c
          exact absurd c (by decide)
      rw [if_pos c]
      obtain ⟨e1, e2, e3⟩ := he (i + 1) lv (by omega) hl
      by_cases c2 : (elem (i + 1) lv).1 = true
      · rw [if_pos c2]
        obtain ⟨e4, e5, e6⟩ := e3 c2
        obtain ⟨g1, g2, g3⟩ := pCh_ok h0 he k (op (cs i) x (elem (i + 1) lv).2.2.2) (elem (i + 1) lv).2.1 (elem (i + 1) lv).2.2.1 e1 e6
        exact ⟨g1, by omega, fun q => ⟨by have := (g3 q).1; omega, (g3 q).2⟩⟩
      · rw [if_neg c2]
        exact ⟨e1, by omega, fun q => absurd q c2⟩
    · rw [if_neg c]
      exact ⟨hi, Nat.le_refl _, fun _ => ⟨Nat.le_refl _, hl⟩⟩
theorem pChain_ok {α : Type} {elem : Nat → Nat → pR α} {isO : Nat → Bool} {op : Nat → α → α → α} (h0 : isO (cs n) = false) (he : lvO n elem) : lvO n (pChain cs elem isO op) := by
  intro i lv hi hl
  unfold pChain
  obtain ⟨e1, e2, e3⟩ := he i lv hi hl
  by_cases c : (elem i lv).1 = true
  · rw [if_pos c]
    obtain ⟨e4, e5, e6⟩ := e3 c
    obtain ⟨g1, g2, g3⟩ := pCh_ok (op := op) h0 he 401 (elem i lv).2.2.2 (elem i lv).2.1 (elem i lv).2.2.1 e1 e6
    exact ⟨g1, by omega, fun q => ⟨by omega, by have := (g3 q).1; omega, (g3 q).2⟩⟩
  · rw [if_neg c]
    exact ⟨e1, e2, e3⟩
theorem pPart_ok (h0 : cs n = 0) (hV : isV 0 = false) {rec : Option (Nat → Nat → pR Mg)} (hr : ∀ f, rec = some f → lvO n f) : lvO n (pPart cs vs isV rec) := by
  intro i lv hi hl
  unfold pPart
  by_cases c : cs i = 191
  · have hin : i < n := by
      rcases Nat.lt_or_ge i n with q | q
      · exact q
      · have : i = n := by omega
        subst this
        omega
    rw [if_pos c]
    cases rec with
    | none => exact ⟨hi, Nat.le_refl _, fun q => absurd (show false = true from q) (by decide)⟩
    | some f =>
      obtain ⟨e1, e2, e3⟩ := hr f rfl (i + 1) lv (by omega) hl
      dsimp only
      by_cases c2 : (f (i + 1) lv).1 = true
      · obtain ⟨e4, e5, e6⟩ := e3 c2
        rw [if_pos c2]
        by_cases c3 : cs (f (i + 1) lv).2.1 = 193
        · rw [if_pos c3]
          have : (f (i + 1) lv).2.1 < n := by
            rcases Nat.lt_or_ge (f (i + 1) lv).2.1 n with q | q
            · exact q
            · have : (f (i + 1) lv).2.1 = n := by omega
              rw [this] at c3
              omega
          exact ⟨by show _ + 1 ≤ n; omega, by show i ≤ _ + 1; omega, fun _ => ⟨by show i < _ + 1; omega, e5, e6⟩⟩
        · rw [if_neg c3]
          exact ⟨e1, by show i ≤ (f (i + 1) lv).2.1; omega, fun q => absurd (show false = true from q) (by decide)⟩
      · rw [if_neg c2]
        exact ⟨e1, by omega, fun q => absurd q c2⟩
  · rw [if_neg c]
    by_cases c2 : (cs i = 50 ∧ vs i ≤ 1000) ∨ isV (cs i) = true
    · have hin : i < n := by
        rcases Nat.lt_or_ge i n with q | q
        · exact q
        · have : i = n := by omega
          subst this
          rcases c2 with c2 | c2
          · omega
          · rw [h0, hV] at c2; exact absurd c2 (by decide)
      rw [if_pos c2]
      by_cases c3 : lv = 50
      · rw [if_pos c3]
        exact ⟨hi, Nat.le_refl _, fun q => absurd (show false = true from q) (by decide)⟩
      · rw [if_neg c3]
        exact ⟨hin, Nat.le_succ _, fun _ => ⟨Nat.lt_succ_self _, Nat.le_succ _, by show lv + 1 ≤ 50; omega⟩⟩
    · rw [if_neg c2]
      exact ⟨hi, Nat.le_refl _, fun q => absurd (show false = true from q) (by decide)⟩
theorem pTerm_ok (h0 : cs n = 0) (hV : isV 0 = false) {rec : Option (Nat → Nat → pR Mg)} (hr : ∀ f, rec = some f → lvO n f) : lvO n (pTerm cs vs isV rec) := pChain_ok (by rw [h0]; rfl) (pPart_ok h0 hV hr)
theorem pSum0_ok (h0 : cs n = 0) (hV : isV 0 = false) {rec : Option (Nat → Nat → pR Mg)} (hr : ∀ f, rec = some f → lvO n f) : lvO n (pSum0 cs vs isV rec) := pChain_ok (by rw [h0]; rfl) (pTerm_ok h0 hV hr)
theorem pSum_ok (h0 : cs n = 0) (hV : isV 0 = false) : ∀ e, lvO n (pSum cs vs isV e)
  | 0 => pSum0_ok h0 hV (fun f q => by cases q)
  | e + 1 => pSum0_ok h0 hV (fun f q => by cases q; exact pSum_ok h0 hV e)
end PA
