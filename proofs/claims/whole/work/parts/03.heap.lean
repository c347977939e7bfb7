/-! ===== the abstract heap: cells by number; of each its kind, length, ints, longs, references ===== -/
abbrev ah_T : Type := (Nat → Nat) × (Nat → Nat) × (Nat → Nat → Int32) × (Nat → Nat → Int64) × (Nat → Nat → Option Nat) × Nat
def ah_k (h : ah_T) (a : Nat) : Nat := h.1 a
def ah_n (h : ah_T) (a : Nat) : Nat := h.2.1 a
def ah_i (h : ah_T) (a j : Nat) : Int32 := h.2.2.1 a j
def ah_l (h : ah_T) (a j : Nat) : Int64 := h.2.2.2.1 a j
def ah_r (h : ah_T) (a j : Nat) : Option Nat := h.2.2.2.2.1 a j
def ah_x (h : ah_T) : Nat := h.2.2.2.2.2
def ah_u2 {α : Type} (f : Nat → Nat → α) (a j : Nat) (x : α) : Nat → Nat → α := fun b k => if b = a ∧ k = j then x else f b k
def ah_u1 {α : Type} (f : Nat → α) (a : Nat) (x : α) : Nat → α := fun b => if b = a then x else f b
def ah_si (h : ah_T) (a j : Nat) (x : Int32) : ah_T := (h.1, h.2.1, ah_u2 h.2.2.1 a j x, h.2.2.2.1, h.2.2.2.2.1, h.2.2.2.2.2)
def ah_sl (h : ah_T) (a j : Nat) (x : Int64) : ah_T := (h.1, h.2.1, h.2.2.1, ah_u2 h.2.2.2.1 a j x, h.2.2.2.2.1, h.2.2.2.2.2)
def ah_sr (h : ah_T) (a j : Nat) (x : Option Nat) : ah_T := (h.1, h.2.1, h.2.2.1, h.2.2.2.1, ah_u2 h.2.2.2.2.1 a j x, h.2.2.2.2.2)
/-- the ints of a cell anew -/
def ah_sa (h : ah_T) (a : Nat) (f : Nat → Int32) : ah_T := (h.1, h.2.1, ah_u1 h.2.2.1 a f, h.2.2.2.1, h.2.2.2.2.1, h.2.2.2.2.2)
/-- a new cell of a kind and a length -/
def ah_nw (h : ah_T) (c n : Nat) : ah_T := (ah_u1 h.1 h.2.2.2.2.2 c, ah_u1 h.2.1 h.2.2.2.2.2 n, ah_u1 h.2.2.1 h.2.2.2.2.2 (fun _ => 0), ah_u1 h.2.2.2.1 h.2.2.2.2.2 (fun _ => 0), ah_u1 h.2.2.2.2.1 h.2.2.2.2.2 (fun _ => none), h.2.2.2.2.2 + 1)
theorem ah_k_si (h : ah_T) (a j : Nat) (x : Int32) (b : Nat) : ah_k (ah_si h a j x) b = ah_k h b := rfl
theorem ah_n_si (h : ah_T) (a j : Nat) (x : Int32) (b : Nat) : ah_n (ah_si h a j x) b = ah_n h b := rfl
theorem ah_l_si (h : ah_T) (a j : Nat) (x : Int32) (b k : Nat) : ah_l (ah_si h a j x) b k = ah_l h b k := rfl
theorem ah_r_si (h : ah_T) (a j : Nat) (x : Int32) (b k : Nat) : ah_r (ah_si h a j x) b k = ah_r h b k := rfl
theorem ah_x_si (h : ah_T) (a j : Nat) (x : Int32) : ah_x (ah_si h a j x) = ah_x h := rfl
theorem ah_i_si (h : ah_T) (a j : Nat) (x : Int32) (b k : Nat) : ah_i (ah_si h a j x) b k = if b = a ∧ k = j then x else ah_i h b k := rfl
theorem ah_k_sl (h : ah_T) (a j : Nat) (x : Int64) (b : Nat) : ah_k (ah_sl h a j x) b = ah_k h b := rfl
theorem ah_n_sl (h : ah_T) (a j : Nat) (x : Int64) (b : Nat) : ah_n (ah_sl h a j x) b = ah_n h b := rfl
theorem ah_i_sl (h : ah_T) (a j : Nat) (x : Int64) (b k : Nat) : ah_i (ah_sl h a j x) b k = ah_i h b k := rfl
theorem ah_r_sl (h : ah_T) (a j : Nat) (x : Int64) (b k : Nat) : ah_r (ah_sl h a j x) b k = ah_r h b k := rfl
theorem ah_x_sl (h : ah_T) (a j : Nat) (x : Int64) : ah_x (ah_sl h a j x) = ah_x h := rfl
theorem ah_l_sl (h : ah_T) (a j : Nat) (x : Int64) (b k : Nat) : ah_l (ah_sl h a j x) b k = if b = a ∧ k = j then x else ah_l h b k := rfl
theorem ah_k_sr (h : ah_T) (a j : Nat) (x : Option Nat) (b : Nat) : ah_k (ah_sr h a j x) b = ah_k h b := rfl
theorem ah_n_sr (h : ah_T) (a j : Nat) (x : Option Nat) (b : Nat) : ah_n (ah_sr h a j x) b = ah_n h b := rfl
theorem ah_i_sr (h : ah_T) (a j : Nat) (x : Option Nat) (b k : Nat) : ah_i (ah_sr h a j x) b k = ah_i h b k := rfl
theorem ah_l_sr (h : ah_T) (a j : Nat) (x : Option Nat) (b k : Nat) : ah_l (ah_sr h a j x) b k = ah_l h b k := rfl
theorem ah_x_sr (h : ah_T) (a j : Nat) (x : Option Nat) : ah_x (ah_sr h a j x) = ah_x h := rfl
theorem ah_r_sr (h : ah_T) (a j : Nat) (x : Option Nat) (b k : Nat) : ah_r (ah_sr h a j x) b k = if b = a ∧ k = j then x else ah_r h b k := rfl
theorem ah_k_sa (h : ah_T) (a : Nat) (f : Nat → Int32) (b : Nat) : ah_k (ah_sa h a f) b = ah_k h b := rfl
theorem ah_n_sa (h : ah_T) (a : Nat) (f : Nat → Int32) (b : Nat) : ah_n (ah_sa h a f) b = ah_n h b := rfl
theorem ah_l_sa (h : ah_T) (a : Nat) (f : Nat → Int32) (b k : Nat) : ah_l (ah_sa h a f) b k = ah_l h b k := rfl
theorem ah_r_sa (h : ah_T) (a : Nat) (f : Nat → Int32) (b k : Nat) : ah_r (ah_sa h a f) b k = ah_r h b k := rfl
theorem ah_x_sa (h : ah_T) (a : Nat) (f : Nat → Int32) : ah_x (ah_sa h a f) = ah_x h := rfl
theorem ah_i_sa (h : ah_T) (a : Nat) (f : Nat → Int32) (b k : Nat) : ah_i (ah_sa h a f) b k = if b = a then f k else ah_i h b k := by
  show (ah_u1 h.2.2.1 a f) b k = _
  unfold ah_u1
  split <;> rfl
theorem ah_x_nw (h : ah_T) (c n : Nat) : ah_x (ah_nw h c n) = ah_x h + 1 := rfl
theorem ah_k_nw (h : ah_T) (c n b : Nat) : ah_k (ah_nw h c n) b = if b = ah_x h then c else ah_k h b := rfl
theorem ah_n_nw (h : ah_T) (c n b : Nat) : ah_n (ah_nw h c n) b = if b = ah_x h then n else ah_n h b := rfl
theorem ah_i_nw (h : ah_T) (c n b k : Nat) : ah_i (ah_nw h c n) b k = if b = ah_x h then 0 else ah_i h b k := by
  show (ah_u1 h.2.2.1 h.2.2.2.2.2 (fun _ => 0)) b k = _
  unfold ah_u1
  show (if b = ah_x h then (fun _ => (0 : Int32)) else h.2.2.1 b) k = _
  split <;> rfl
theorem ah_l_nw (h : ah_T) (c n b k : Nat) : ah_l (ah_nw h c n) b k = if b = ah_x h then 0 else ah_l h b k := by
  show (ah_u1 h.2.2.2.1 h.2.2.2.2.2 (fun _ => 0)) b k = _
  unfold ah_u1
  show (if b = ah_x h then (fun _ => (0 : Int64)) else h.2.2.2.1 b) k = _
  split <;> rfl
theorem ah_r_nw (h : ah_T) (c n b k : Nat) : ah_r (ah_nw h c n) b k = if b = ah_x h then none else ah_r h b k := by
  show (ah_u1 h.2.2.2.2.1 h.2.2.2.2.2 (fun _ => none)) b k = _
  unfold ah_u1
  show (if b = ah_x h then (fun _ => (none : Option Nat)) else h.2.2.2.2.1 b) k = _
  split <;> rfl
/-! ===== what a cell is on the machine's heap ===== -/
def ab_N : Nat → Nat := fun c => match c with
  | 0 => 13 | 1 => 18 | 2 => 3 | 3 => 20 | 4 => 16 | 5 => 11 | 6 => 14 | 7 => 4 | 8 => 11 | 9 => 4 | 10 => 10 | 11 => 20 | _ => 79
def ab_ty : Nat → Nat → FieldType := fun c => match c with
  | 0 => tyX0 | 1 => tyX1 | 2 => tyX2 | 3 => tyX3 | 4 => tyX4 | 5 => tyX5 | 6 => tyX6 | 7 => tyX7 | 8 => tyX8 | 9 => tyX9 | 10 => tyX10 | 11 => tyX11 | _ => tyX12
def ab_code : FieldType → Nat
  | .long => 1
  | .object _ => 2
  | .array _ => 2
  | _ => 0
def ab_fv (σ : Nat → Nat) (h : ah_T) (a k : Nat) (t : FieldType) : Value :=
  if ab_code t = 0 then .int (ah_i h a k) else if ab_code t = 1 then .long (ah_l h a k) else va_rf ((ah_r h a k).map σ)
def ab_fs (σ : Nat → Nat) (h : ah_T) (a c : Nat) : List Value := (List.range (ab_N c)).map (fun k => ab_fv σ h a k (ab_ty c k))
def ab_E (y : Nat → ClassId) (σ : Nat → Nat) (h : ah_T) (a : Nat) : va_E :=
  if ah_k h a < 13 then .inr (ah_k h a, ab_fs σ h a (ah_k h a))
  else .inl (y (ah_k h a), ah_n h a, if ah_k h a = 15 then .inr (.inl (ah_l h a)) else if ah_k h a < 17 then .inl (ah_i h a) else .inr (.inr (.inr (.inr (fun j => (ah_r h a j).map σ)))))
def ab_ws (y : Nat → ClassId) (σ : Nat → Nat) (h : ah_T) : va_W := (List.range (ah_x h)).map (fun a => (σ a, ab_E y σ h a))
theorem ab_ws_at {y : Nat → ClassId} {σ : Nat → Nat} {h : ah_T} {a : Nat} (ha : a < ah_x h) : (ab_ws y σ h)[a]? = some (σ a, ab_E y σ h a) := by
  simp [ab_ws, ha]
theorem ab_ws_len (y : Nat → ClassId) (σ : Nat → Nat) (h : ah_T) : (ab_ws y σ h).length = ah_x h := by simp [ab_ws]
/-- a world of which one cell is another -/
theorem ab_ws_set {y : Nat → ClassId} {σ : Nat → Nat} {h h' : ah_T} {a : Nat} (hx : ah_x h' = ah_x h) (e : va_E) (he : ab_E y σ h' a = e) (ho : ∀ b, b ≠ a → ab_E y σ h' b = ab_E y σ h b) : (ab_ws y σ h).set a (σ a, e) = ab_ws y σ h' := by
  apply List.ext_getElem?
  intro i
  by_cases hi : i = a
  · subst hi
    by_cases hl : i < ah_x h
    · rw [List.getElem?_set_self (by rw [ab_ws_len]; exact hl), ab_ws_at (by rw [hx]; exact hl), he]
    · rw [List.getElem?_eq_none (by rw [List.length_set, ab_ws_len]; omega), List.getElem?_eq_none (by rw [ab_ws_len, hx]; omega)]
  · rw [List.getElem?_set_ne (Ne.symm hi)]
    by_cases hl : i < ah_x h
    · rw [ab_ws_at hl, ab_ws_at (by rw [hx]; exact hl), ho i hi]
    · rw [List.getElem?_eq_none (by rw [ab_ws_len]; omega), List.getElem?_eq_none (by rw [ab_ws_len, hx]; omega)]
theorem ab_ws_new {y : Nat → ClassId} {σ σ' : Nat → Nat} {h h' : ah_T} (hx : ah_x h' = ah_x h + 1) (q : Nat) (e : va_E) (hq : σ' (ah_x h) = q) (he : ab_E y σ' h' (ah_x h) = e) (ho : ∀ b, b < ah_x h → σ' b = σ b ∧ ab_E y σ' h' b = ab_E y σ h b) : ab_ws y σ h ++ [(q, e)] = ab_ws y σ' h' := by
  unfold ab_ws
  rw [hx, List.range_succ, List.map_append]
  congr 1
  · apply List.map_congr_left
    intro b hb
    obtain ⟨h1, h2⟩ := ho b (List.mem_range.mp hb)
    rw [h1, h2]
  · simp [hq, he]
/-! ===== values ===== -/
def ab_v (σ : Nat → Nat) : Value → Value
  | .ref a => .ref (σ a)
  | .int x => .int x
  | .long x => .long x
  | .float x => .float x
  | .double x => .double x
  | .null => .null
  | .retAddr x => .retAddr x
def ab_ok (n : Nat) : Value → Prop
  | .ref a => a < n
  | .int _ => True
  | .long _ => True
  | .float _ => True
  | .double _ => True
  | .null => True
  | .retAddr _ => True
def ab_okS (n : Nat) : List Value → Prop
  | [] => True
  | v :: t => ab_ok n v ∧ ab_okS n t
def ab_okL (n : Nat) : List (Option Value) → Prop
  | [] => True
  | none :: t => ab_okL n t
  | some v :: t => ab_ok n v ∧ ab_okL n t
theorem ab_v_cat (σ : Nat → Nat) (v : Value) : (ab_v σ v).category = v.category := by cases v <;> rfl
theorem ab_v_rf (σ : Nat → Nat) (r : Option Nat) : ab_v σ (va_rf r) = va_rf (r.map σ) := by cases r <;> rfl
theorem ab_v_eq {σ σ' : Nat → Nat} {n : Nat} (h : ∀ a, a < n → σ' a = σ a) {v : Value} (hv : ab_ok n v) : ab_v σ' v = ab_v σ v := by
  cases v with
  | ref a => exact congrArg Value.ref (h a hv)
  | _ => rfl
theorem ab_v_eqS {σ σ' : Nat → Nat} {n : Nat} (h : ∀ a, a < n → σ' a = σ a) : ∀ {st : List Value}, ab_okS n st → st.map (ab_v σ') = st.map (ab_v σ)
  | [], _ => rfl
  | v :: t, hv => by rw [List.map_cons, List.map_cons, ab_v_eq h hv.1, ab_v_eqS h hv.2]
theorem ab_ok_mono {n n' : Nat} (h : n ≤ n') {v : Value} (hv : ab_ok n v) : ab_ok n' v := by
  cases v with
  | ref a => exact Nat.lt_of_lt_of_le hv h
  | _ => exact trivial
theorem ab_okS_mono {n n' : Nat} (h : n ≤ n') : ∀ {st : List Value}, ab_okS n st → ab_okS n' st
  | [], _ => trivial
  | _ :: _, hv => ⟨ab_ok_mono h hv.1, ab_okS_mono h hv.2⟩
theorem ab_okL_mono {n n' : Nat} (h : n ≤ n') : ∀ {L : List (Option Value)}, ab_okL n L → ab_okL n' L
  | [], _ => trivial
  | none :: t, hv => show ab_okL n' t from ab_okL_mono h (L := t) hv
  | some _ :: _, hv => ⟨ab_ok_mono h hv.1, ab_okL_mono h hv.2⟩
theorem ab_okL_at {n : Nat} : ∀ {L : List (Option Value)} {i : Nat} {v : Value}, ab_okL n L → L[i]? = some (some v) → ab_ok n v
  | [], i, v, _, h => by simp at h
  | none :: t, 0, v, _, h => by simp at h
  | none :: t, i + 1, v, hL, h => ab_okL_at (L := t) (i := i) (show ab_okL n t from hL) (by simpa using h)
  | some w :: t, 0, v, hL, h => by
    have : w = v := by simpa using h
    rw [← this]; exact hL.1
  | some w :: t, i + 1, v, hL, h => ab_okL_at (L := t) (i := i) hL.2 (by simpa using h)
theorem ab_okL_of {n : Nat} : ∀ {L : List (Option Value)}, (∀ (i : Nat) (v : Value), L[i]? = some (some v) → ab_ok n v) → ab_okL n L
  | [], _ => trivial
  | none :: t, h => show ab_okL n t from ab_okL_of (fun i v hv => h (i + 1) v (by simpa using hv))
  | some w :: t, h => ⟨h 0 w (by simp), ab_okL_of (fun i v hv => h (i + 1) v (by simpa using hv))⟩
theorem ab_okL_set {n : Nat} {L L' : List (Option Value)} {i : Nat} {v : Value} (hL : ab_okL n L) (hv : ab_ok n v) (he : L.set i (some v) = L') : ab_okL n L' := by
  subst he
  refine ab_okL_of fun j w hj => ?_
  by_cases hij : i = j
  · subst hij
    by_cases hl : i < L.length
    · rw [List.getElem?_set_self hl] at hj
      have : v = w := by simpa using hj
      rw [← this]; exact hv
    · rw [List.getElem?_eq_none (by rw [List.length_set]; omega)] at hj
      simp at hj
  · rw [List.getElem?_set_ne hij] at hj
    exact ab_okL_at hL hj
/-- the locals: what is listed is held -/
def ab_lv (ls : Array Slot) (n : Nat) (σ : Nat → Nat) (L : List (Option Value)) : Prop := ls.size = n ∧ lv_wf ls ∧ ∀ (i : Nat) (v : Value), L[i]? = some (some v) → ls[i]? = some (.val (ab_v σ v))
theorem ab_lv.at {ls : Array Slot} {n : Nat} {σ : Nat → Nat} {L : List (Option Value)} (h : ab_lv ls n σ L) {i : Nat} {v : Value} (hi : L[i]? = some (some v)) : ls[i]? = some (.val (ab_v σ v)) := h.2.2 i v hi
theorem ab_lv.moved {ls : Array Slot} {n m : Nat} {σ σ' : Nat → Nat} {L : List (Option Value)} (h : ab_lv ls n σ L) (hs : ∀ a, a < m → σ' a = σ a) (ho : ab_okL m L) : ab_lv ls n σ' L :=
  ⟨h.1, h.2.1, fun i v hi => by rw [ab_v_eq hs (ab_okL_at ho hi)]; exact h.2.2 i v hi⟩
/-- the listed values as the kit lists them -/
def ab_pr (σ : Nat → Nat) (L : List (Option Value)) : List (Nat × Value) := (List.range L.length).filterMap (fun i => match L[i]? with
  | some (some v) => some (i, ab_v σ v)
  | _ => none)
theorem ab_pr_mem {σ : Nat → Nat} {L : List (Option Value)} {q : Nat × Value} : q ∈ ab_pr σ L ↔ ∃ v, L[q.1]? = some (some v) ∧ q.2 = ab_v σ v := by
  unfold ab_pr
  rw [List.mem_filterMap]
  constructor
  · rintro ⟨i, -, hi⟩
    split at hi
    · rename_i v hv
      cases hi
      exact ⟨v, hv, rfl⟩
    · cases hi
  · rintro ⟨v, hv, he⟩
    refine ⟨q.1, List.mem_range.mpr (List.getElem?_eq_some_iff.mp hv).1, ?_⟩
    rw [hv]
    show some (q.1, ab_v σ v) = some q
    rw [← he]
theorem ab_lv.pr {ls : Array Slot} {n : Nat} {σ : Nat → Nat} {L : List (Option Value)} (h : ab_lv ls n σ L) : lv_has ls n (ab_pr σ L) :=
  ⟨h.1, h.2.1, fun q hq => by
    obtain ⟨v, hv, he⟩ := ab_pr_mem.mp hq
    rw [he]
    exact h.2.2 _ _ hv⟩
/-- nothing of category 2 lies just ahead of a place -/
def ab_clr (L : List (Option Value)) : Nat → Bool
  | 0 => true
  | i + 1 => match L[i]? with
    | some (some (.long _)) => false
    | some (some (.double _)) => false
    | _ => true
theorem ab_clr_spec {L : List (Option Value)} {i j : Nat} {v : Value} (h : ab_clr L i = true) (hj : j + 1 = i) (hv : L[j]? = some (some v)) : ¬ v.category = 2 := by
  subst hj
  simp only [ab_clr, hv] at h
  cases v <;> simp [Value.category] at h ⊢
theorem ab_lv.store1 {ls' : Array Slot} {n : Nat} {σ : Nat → Nat} {L L' : List (Option Value)} {i : Nat} {v : Value} (hc : ab_clr L i = true) (he : L.set i (some v) = L')
    (h : lv_has ls' n ((i, ab_v σ v) :: (ab_pr σ L).filter (fun q => !(q.1 == i) && !(q.1 + 1 == i && q.2.category == 2)))) : ab_lv ls' n σ L' := by
  refine ⟨h.1, h.2.1, fun j w hj => ?_⟩
  subst he
  by_cases hij : i = j
  · subst hij
    by_cases hl : i < L.length
    · rw [List.getElem?_set_self hl] at hj
      have hw : v = w := by simpa using hj
      rw [← hw]
      exact h.2.2 (i, ab_v σ v) List.mem_cons_self
    · rw [List.getElem?_eq_none (by rw [List.length_set]; omega)] at hj
      simp at hj
  · rw [List.getElem?_set_ne hij] at hj
    refine h.2.2 (j, ab_v σ w) (List.mem_cons_of_mem _ (List.mem_filter.mpr ⟨ab_pr_mem.mpr ⟨w, hj, rfl⟩, ?_⟩))
    have h2 : ¬ (j + 1 = i ∧ w.category = 2) := fun q => ab_clr_spec hc q.1 hj q.2
    have h3 : ¬ j = i := fun q => hij q.symm
    simp only [ab_v_cat]
    by_cases h4 : j + 1 = i
    · have h5 : ¬ w.category = 2 := fun q => h2 ⟨h4, q⟩
      simp [h3, h5]
    · simp [h3, h4]
theorem ab_lv.store2 {ls' : Array Slot} {n : Nat} {σ : Nat → Nat} {L L' : List (Option Value)} {i : Nat} {v : Value} (hc : ab_clr L i = true) (he : (L.set i (some v)).set (i + 1) none = L')
    (h : lv_has ls' n ((i, ab_v σ v) :: (ab_pr σ L).filter (fun q => !(q.1 == i) && (!(q.1 == i + 1) && !(q.1 + 1 == i && q.2.category == 2))))) : ab_lv ls' n σ L' := by
  refine ⟨h.1, h.2.1, fun j w hj => ?_⟩
  subst he
  by_cases hi1 : i + 1 = j
  · subst hi1
    by_cases hl : i + 1 < (L.set i (some v)).length
    · rw [List.getElem?_set_self hl] at hj
      simp at hj
    · rw [List.getElem?_eq_none (by rw [List.length_set]; omega)] at hj
      simp at hj
  · rw [List.getElem?_set_ne hi1] at hj
    by_cases hij : i = j
    · subst hij
      by_cases hl : i < L.length
      · rw [List.getElem?_set_self hl] at hj
        have hw : v = w := by simpa using hj
        rw [← hw]
        exact h.2.2 (i, ab_v σ v) List.mem_cons_self
      · rw [List.getElem?_eq_none (by rw [List.length_set]; omega)] at hj
        simp at hj
    · rw [List.getElem?_set_ne hij] at hj
      refine h.2.2 (j, ab_v σ w) (List.mem_cons_of_mem _ (List.mem_filter.mpr ⟨ab_pr_mem.mpr ⟨w, hj, rfl⟩, ?_⟩))
      have h2 : ¬ (j + 1 = i ∧ w.category = 2) := fun q => ab_clr_spec hc q.1 hj q.2
      have h3 : ¬ j = i := fun q => hij q.symm
      have h6 : ¬ j = i + 1 := fun q => hi1 q.symm
      simp only [ab_v_cat]
      by_cases h4 : j + 1 = i
      · have h5 : ¬ w.category = 2 := fun q => h2 ⟨h4, q⟩
        simp [h3, h5, h6]
      · simp [h3, h4, h6]
theorem ab_okL_set2 {n : Nat} {L L' : List (Option Value)} {i : Nat} {v : Value} (hL : ab_okL n L) (hv : ab_ok n v) (he : (L.set i (some v)).set (i + 1) none = L') : ab_okL n L' := by
  subst he
  refine ab_okL_of fun j w hj => ?_
  have hL2 := ab_okL_set hL hv (i := i) rfl
  by_cases hij : i + 1 = j
  · subst hij
    by_cases hl : i + 1 < (L.set i (some v)).length
    · rw [List.getElem?_set_self hl] at hj
      simp at hj
    · rw [List.getElem?_eq_none (by rw [List.length_set]; omega)] at hj
      simp at hj
  · rw [List.getElem?_set_ne hij] at hj
    exact ab_okL_at hL2 hj
/-- fewer are listed -/
def ab_leL : List (Option Value) → List (Option Value) → Prop
  | [], _ => True
  | none :: t, [] => ab_leL t []
  | none :: t, _ :: u => ab_leL t u
  | some _ :: _, [] => False
  | some v :: t, w :: u => w = some v ∧ ab_leL t u
theorem ab_leL_at : ∀ {L' L : List (Option Value)}, ab_leL L' L → ∀ {i : Nat} {v : Value}, L'[i]? = some (some v) → L[i]? = some (some v)
  | [], L, _, i, v, h => by simp at h
  | none :: t, [], hl, 0, v, h => by simp at h
  | none :: t, [], hl, i + 1, v, h => by
    have := ab_leL_at (L' := t) (L := []) hl (i := i) (v := v) (by simpa using h)
    simp at this
  | none :: t, w :: u, hl, 0, v, h => by simp at h
  | none :: t, w :: u, hl, i + 1, v, h => by
    have := ab_leL_at (L' := t) (L := u) hl (i := i) (v := v) (by simpa using h)
    simpa using this
  | some v0 :: t, [], hl, i, v, h => hl.elim
  | some v0 :: t, w :: u, hl, 0, v, h => by
    obtain ⟨h1, -⟩ := hl
    have h2 : v0 = v := by simpa using h
    rw [h1, h2]; simp
  | some v0 :: t, w :: u, hl, i + 1, v, h => by
    have := ab_leL_at (L' := t) (L := u) hl.2 (i := i) (v := v) (by simpa using h)
    simpa using this
