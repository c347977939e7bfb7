/-! ===== both constructors: the heap as a list (printed by wip/whole/mkinv.py) ===== -/
abbrev cD : Type := Nat × Nat × List (Nat × Int32) × List (Nat × Option Nat) × List (Nat × Int64)
def lkD {α : Type} (z : α) : List (Nat × α) → Nat → α
  | [], _ => z
  | q :: R, k => if k = q.1 then q.2 else lkD z R k
def dn (L : List cD) : ah_T := (fun a => match L[a]? with | some c => c.1 | none => 99, fun a => match L[a]? with | some c => c.2.1 | none => 0, fun a k => match L[a]? with | some c => lkD 0 c.2.2.1 k | none => 0, fun a k => match L[a]? with | some c => lkD 0 c.2.2.2.2 k | none => 0, fun a k => match L[a]? with | some c => lkD none c.2.2.2.1 k | none => none, L.length)
def md (f : cD → cD) : Nat → List cD → List cD
  | _, [] => []
  | 0, c :: R => f c :: R
  | a + 1, c :: R => c :: md f a R
abbrev fI (j : Nat) (x : Int32) (c : cD) : cD := (c.1, c.2.1, (j, x) :: c.2.2.1, c.2.2.2)
abbrev fR (j : Nat) (x : Option Nat) (c : cD) : cD := (c.1, c.2.1, c.2.2.1, (j, x) :: c.2.2.2.1, c.2.2.2.2)
abbrev fL (j : Nat) (x : Int64) (c : cD) : cD := (c.1, c.2.1, c.2.2.1, c.2.2.2.1, (j, x) :: c.2.2.2.2)
theorem md_len (f : cD → cD) : ∀ (a : Nat) (L : List cD), (md f a L).length = L.length
  | _, [] => by unfold md; rfl
  | 0, c :: R => by unfold md; rfl
  | a + 1, c :: R => by unfold md; rw [List.length_cons, md_len f a R, List.length_cons]
theorem md_get (f : cD → cD) : ∀ (a : Nat) (L : List cD) (b : Nat), (md f a L)[b]? = if b = a then (L[b]?).map f else L[b]?
  | a, [], b => by
    unfold md
    split <;> rfl
  | 0, c :: R, 0 => by unfold md; rfl
  | 0, c :: R, b + 1 => by unfold md; rfl
  | a + 1, c :: R, 0 => by unfold md; rfl
  | a + 1, c :: R, b + 1 => by
    unfold md
    rw [List.getElem?_cons_succ, md_get f a R b, List.getElem?_cons_succ]
    by_cases z : b = a
    · rw [if_pos z, if_pos (by omega)]
    · rw [if_neg z, if_neg (by omega)]
theorem dn_nw (L : List cD) (c n : Nat) : ah_nw (dn L) c n = dn (L ++ [(c, n, [], [], [])]) := by
  have g : ∀ b, (L ++ [((c, n, [], [], []) : cD)])[b]? = if b = L.length then some (c, n, [], [], []) else L[b]? := by
    intro b
    rcases Nat.lt_trichotomy b L.length with z | z | z
    · rw [List.getElem?_append_left z, if_neg (by omega)]
    · rw [List.getElem?_append_right (by omega), z, Nat.sub_self, if_pos rfl]; rfl
    · rw [List.getElem?_eq_none (by rw [List.length_append]; show L.length + 1 ≤ b; omega), if_neg (by omega), List.getElem?_eq_none (by omega)]
  unfold ah_nw dn
  refine Prod.ext (funext fun b => ?_) (Prod.ext (funext fun b => ?_) (Prod.ext (funext fun b => ?_) (Prod.ext (funext fun b => ?_) (Prod.ext (funext fun b => ?_) ?_))))
  · show (if b = L.length then c else _) = _
    dsimp only
    rw [g b]
    by_cases z : b = L.length
    · rw [if_pos z, if_pos z]
    · rw [if_neg z, if_neg z]
  · show (if b = L.length then n else _) = _
    dsimp only
    rw [g b]
    by_cases z : b = L.length
    · rw [if_pos z, if_pos z]
    · rw [if_neg z, if_neg z]
  · show (if b = L.length then (fun _ => (0 : Int32)) else _) = _
    refine funext fun k => ?_
    dsimp only
    rw [g b]
    by_cases z : b = L.length
    · rw [if_pos z, if_pos z]; rfl
    · rw [if_neg z, if_neg z]
  · show (if b = L.length then (fun _ => (0 : Int64)) else _) = _
    refine funext fun k => ?_
    dsimp only
    rw [g b]
    by_cases z : b = L.length
    · rw [if_pos z, if_pos z]; rfl
    · rw [if_neg z, if_neg z]
  · show (if b = L.length then (fun _ => (none : Option Nat)) else _) = _
    refine funext fun k => ?_
    dsimp only
    rw [g b]
    by_cases z : b = L.length
    · rw [if_pos z, if_pos z]; rfl
    · rw [if_neg z, if_neg z]
  · show L.length + 1 = (L ++ [_]).length
    rw [List.length_append]; rfl
theorem dn_si {L : List cD} {a : Nat} (ha : a < L.length) (j : Nat) (x : Int32) : ah_si (dn L) a j x = dn (md (fI j x) a L) := by
  unfold ah_si dn
  refine Prod.ext (funext fun b => ?_) (Prod.ext (funext fun b => ?_) (Prod.ext (funext fun b => funext fun k => ?_) (Prod.ext (funext fun b => funext fun k => ?_) (Prod.ext (funext fun b => funext fun k => ?_) (md_len _ _ _).symm))))
  all_goals simp only [md_get]
  · by_cases z : b = a
    · rw [if_pos z]; cases L[b]? <;> rfl
    · rw [if_neg z]
  · by_cases z : b = a
    · rw [if_pos z]; cases L[b]? <;> rfl
    · rw [if_neg z]
  · show (if b = a ∧ k = j then x else _) = _
    by_cases z : b = a
    · subst z
      obtain ⟨c, hc⟩ : ∃ c, L[b]? = some c := ⟨L[b], List.getElem?_eq_getElem ha⟩
      dsimp only
      rw [if_pos rfl, hc]
      show (if b = b ∧ k = j then x else lkD 0 c.2.2.1 k) = (if k = j then x else lkD 0 c.2.2.1 k)
      by_cases w : k = j
      · rw [if_pos ⟨rfl, w⟩, if_pos w]
      · rw [if_neg (fun y => w y.2), if_neg w]
    · rw [if_neg (fun y => z y.1), if_neg z]
  · by_cases z : b = a
    · rw [if_pos z]; cases L[b]? <;> rfl
    · rw [if_neg z]
  · by_cases z : b = a
    · rw [if_pos z]; cases L[b]? <;> rfl
    · rw [if_neg z]
theorem dn_sr {L : List cD} {a : Nat} (ha : a < L.length) (j : Nat) (x : Option Nat) : ah_sr (dn L) a j x = dn (md (fR j x) a L) := by
  unfold ah_sr dn
  refine Prod.ext (funext fun b => ?_) (Prod.ext (funext fun b => ?_) (Prod.ext (funext fun b => funext fun k => ?_) (Prod.ext (funext fun b => funext fun k => ?_) (Prod.ext (funext fun b => funext fun k => ?_) (md_len _ _ _).symm))))
  all_goals simp only [md_get]
  · by_cases z : b = a
    · rw [if_pos z]; cases L[b]? <;> rfl
    · rw [if_neg z]
  · by_cases z : b = a
    · rw [if_pos z]; cases L[b]? <;> rfl
    · rw [if_neg z]
  · by_cases z : b = a
    · rw [if_pos z]; cases L[b]? <;> rfl
    · rw [if_neg z]
  · by_cases z : b = a
    · rw [if_pos z]; cases L[b]? <;> rfl
    · rw [if_neg z]
  · show (if b = a ∧ k = j then x else _) = _
    by_cases z : b = a
    · subst z
      obtain ⟨c, hc⟩ : ∃ c, L[b]? = some c := ⟨L[b], List.getElem?_eq_getElem ha⟩
      dsimp only
      rw [if_pos rfl, hc]
      show (if b = b ∧ k = j then x else lkD none c.2.2.2.1 k) = (if k = j then x else lkD none c.2.2.2.1 k)
      by_cases w : k = j
      · rw [if_pos ⟨rfl, w⟩, if_pos w]
      · rw [if_neg (fun y => w y.2), if_neg w]
    · rw [if_neg (fun y => z y.1), if_neg z]
theorem dn_sl {L : List cD} {a : Nat} (ha : a < L.length) (j : Nat) (x : Int64) : ah_sl (dn L) a j x = dn (md (fL j x) a L) := by
  unfold ah_sl dn
  refine Prod.ext (funext fun b => ?_) (Prod.ext (funext fun b => ?_) (Prod.ext (funext fun b => funext fun k => ?_) (Prod.ext (funext fun b => funext fun k => ?_) (Prod.ext (funext fun b => funext fun k => ?_) (md_len _ _ _).symm))))
  all_goals simp only [md_get]
  · by_cases z : b = a
    · rw [if_pos z]; cases L[b]? <;> rfl
    · rw [if_neg z]
  · by_cases z : b = a
    · rw [if_pos z]; cases L[b]? <;> rfl
    · rw [if_neg z]
  · by_cases z : b = a
    · rw [if_pos z]; cases L[b]? <;> rfl
    · rw [if_neg z]
  · show (if b = a ∧ k = j then x else _) = _
    by_cases z : b = a
    · subst z
      obtain ⟨c, hc⟩ : ∃ c, L[b]? = some c := ⟨L[b], List.getElem?_eq_getElem ha⟩
      dsimp only
      rw [if_pos rfl, hc]
      show (if b = b ∧ k = j then x else lkD 0 c.2.2.2.2 k) = (if k = j then x else lkD 0 c.2.2.2.2 k)
      by_cases w : k = j
      · rw [if_pos ⟨rfl, w⟩, if_pos w]
      · rw [if_neg (fun y => w y.2), if_neg w]
    · rw [if_neg (fun y => z y.1), if_neg z]
  · by_cases z : b = a
    · rw [if_pos z]; cases L[b]? <;> rfl
    · rw [if_neg z]
theorem st_w {P : Nat → Prop} {L : List cD} {n : Nat} (hn : L.length = n) (k : P n) : ∀ w, w = ah_x (dn L) → P w := by
  rintro w e
  have : w = n := e.trans hn
  rw [this]; exact k
theorem st_n {P : ah_T → Prop} {L : List cD} {c n : Nat} (k : P (dn (L ++ [(c, n, [], [], [])]))) : ∀ h, h = ah_nw (dn L) c n → P h := by
  rintro h e
  rw [e, dn_nw]; exact k
theorem st_i {P : ah_T → Prop} {L : List cD} {a j : Nat} {x : Int32} (ha : a < L.length) (k : P (dn (md (fI j x) a L))) : ∀ h, h = ah_si (dn L) a j x → P h := by
  rintro h e
  rw [e, dn_si ha]; exact k
theorem st_r {P : ah_T → Prop} {L : List cD} {a j : Nat} {x : Option Nat} (ha : a < L.length) (k : P (dn (md (fR j x) a L))) : ∀ h, h = ah_sr (dn L) a j x → P h := by
  rintro h e
  rw [e, dn_sr ha]; exact k
theorem st_l {P : ah_T → Prop} {L : List cD} {a j : Nat} {x : Int64} (ha : a < L.length) (k : P (dn (md (fL j x) a L))) : ∀ h, h = ah_sl (dn L) a j x → P h := by
  rintro h e
  rw [e, dn_sl ha]; exact k
theorem st_t {P : Prop} {L : List cD} {t n : Nat} (hn : L.length = n) (ht : ¬ t = n) (k : P) : (¬ t = ah_x (dn L)) ∧ P := ⟨fun y => ht (y.trans hn), k⟩
def cD_eq : DecidableEq cD := @instDecidableEqProd _ _ inferInstance (@instDecidableEqProd _ _ inferInstance (@instDecidableEqProd _ _ inferInstance (@instDecidableEqProd _ _ inferInstance inferInstance)))
def cD_eqL : DecidableEq (List cD) := @instDecidableEqList _ cD_eq
theorem st_q {P : ah_T → Prop} {L L' : List cD} (e : @decide (L = L') (cD_eqL L L') = true) (k : P (dn L')) : ab_qv P none (dn L) := ⟨rfl, by rw [@of_decide_eq_true _ (cD_eqL L L') e]; exact k⟩
theorem st_e {Q : Option Value → ah_T → Prop} {L L' : List cD} (e : @decide (L = L') (cD_eqL L L') = true) (k : Q none (dn L')) : Q none (dn L) := by rw [@of_decide_eq_true _ (cD_eqL L L') e]; exact k
