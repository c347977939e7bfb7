/-! ===== rounds: the first row of lamps ===== -/
def pG (n : Nat) (co : Nat → Nat) (m c : Nat) : Prop := ∃ l, l < n ∧ m.testBit l = true ∧ co l = c
noncomputable def rG (A : Nat → Nat) (n : Nat) (co : Nat → Nat) (m a : Nat) : Nat := min 1000000 (mv (dS A) (pG n co m) a)
def cnd (A : Nat → Nat) (n : Nat) (co : Nat → Nat) (m a l : Nat) : Prop := l < n ∧ m.testBit l = true ∧ dS A a (co l) + rG A n co (m ^^^ 2 ^ l) (co l) = rG A n co m a
noncomputable def rSt (A : Nat → Nat) (n : Nat) (co : Nat → Nat) (c : Nat) : Nat → Nat × Nat
  | 0 => (2 ^ n - 1, c)
  | k + 1 => ((rSt A n co c k).1 ^^^ 2 ^ low (cnd A n co (rSt A n co c k).1 (rSt A n co c k).2), co (low (cnd A n co (rSt A n co c k).1 (rSt A n co c k).2)))
noncomputable def rRow (A : Nat → Nat) (n : Nat) (co : Nat → Nat) (c k : Nat) : Nat := low (cnd A n co (rSt A n co c k).1 (rSt A n co c k).2)
def alR (A : Nat → Nat) (n : Nat) (co : Nat → Nat) (c : Nat) : Prop := ∀ l, l < n → dS A c (co l) < 12
section RP
variable {A co : Nat → Nat} {m a l b c k n : Nat} {f g : Nat → Prop}
theorem pL_12 (wl : n ≤ 10 ∧ ∀ l, l < n → co l < 12) : ∀ c, pG n co m c → c < 12 := by
  rintro c ⟨l, hl, _, e⟩
  rw [← e]
  exact wl.2 l hl
theorem pL_x1 {x : Nat} (h : pG n co m x) : x = co l ∨ pG n co (m ^^^ 2 ^ l) x := by
  obtain ⟨l', h1, h2, h3⟩ := h
  by_cases z : l' = l
  · subst z; exact .inl h3.symm
  · refine .inr ⟨l', h1, ?_, h3⟩
    rw [tb_x, h2, decide_eq_false (Ne.symm z)]; rfl
theorem pL_x2 (hb : m.testBit l = true) {x : Nat} (h : pG n co (m ^^^ 2 ^ l) x) : pG n co m x := by
  obtain ⟨l', h1, h2, h3⟩ := h
  refine ⟨l', h1, ?_, h3⟩
  rw [tb_x] at h2
  by_cases z : l = l'
  · subst z
    rw [hb, decide_eq_true rfl] at h2
    exact absurd h2 (by decide)
  · rw [decide_eq_false z] at h2
    simpa using h2
theorem rv_0 (no : ∀ l, l < n → m.testBit l = false) : rG A n co m a = 0 := by
  have z : mv (dS A) (pG n co m) a = 0 := mv_0 (fun c => by
    rintro ⟨l, h1, h2, _⟩
    rw [no l h1] at h2
    exact absurd h2 (by decide))
  unfold rG
  rw [z]
  omega
theorem rv_min (wl : n ≤ 10 ∧ ∀ l, l < n → co l < 12) (e : ∃ l, l < n ∧ m.testBit l = true) (b1 : b ≤ 1000000) (b2 : ∀ l, l < n → m.testBit l = true → b ≤ dS A a (co l) + rG A n co (m ^^^ 2 ^ l) (co l)) (b3 : b = 1000000 ∨ ∃ l, l < n ∧ m.testBit l = true ∧ b = dS A a (co l) + rG A n co (m ^^^ 2 ^ l) (co l)) : b = rG A n co m a := by
  obtain ⟨l0, h1, h2⟩ := e
  refine mv_min (I := fun l => l < n ∧ m.testBit l = true) (cf := fun l => co l) (Qf := fun l => pG n co (m ^^^ 2 ^ l)) (dS_tri A) (dS_rf A) (pL_12 wl) (fun l _ x hx => pL_x1 hx) (fun l il x hx => pL_x2 il.2 hx) ?_ ⟨_, l0, h1, h2, rfl⟩ b1 (fun l il => b2 l il.1 il.2) ?_
  · rintro p ⟨l, q1, q2, q3⟩
    exact ⟨l, ⟨q1, q2⟩, q3⟩
  · rcases b3 with y | ⟨l, y1, y2, y3⟩
    · exact .inl y
    · exact .inr ⟨l, ⟨y1, y2⟩, y3⟩
theorem rv_le (A : Nat → Nat) (n : Nat) (co : Nat → Nat) (m a : Nat) : rG A n co m a ≤ 1000000 := Nat.min_le_left _ _
theorem cnd_ex (wl : n ≤ 10 ∧ ∀ l, l < n → co l < 12) (e : ∃ l, l < n ∧ m.testBit l = true) (lt : rG A n co m a < 1000000) : ∃ x, lsO (cnd A n co m a) x := by
  have w10 := wl.1
  obtain ⟨l0, h1, h2⟩ := e
  have elt : mv (dS A) (pG n co m) a < 1000000 := by unfold rG at lt; omega
  obtain ⟨p, ⟨l, q1, q2, q3⟩, q4⟩ := mv_2 (a := a) (dS_tri A) (pL_12 (m := m) wl) ⟨_, l0, h1, h2, rfl⟩
  have w := q4 (fun x => pG n co (m ^^^ 2 ^ l) x ∧ x ≠ p) (fun x hx => ⟨pL_x2 q2 hx.1, hx.2⟩)
  have m1 := mv_1 (D := dS A) (P := pG n co (m ^^^ 2 ^ l)) (Q := fun x => pG n co (m ^^^ 2 ^ l) x ∧ x ≠ p) (a := p) (c := p) (pL_12 wl) (fun x hx => pL_12 wl x hx.1) (fun x hx => by
    by_cases z : x = p
    · exact .inl z
    · exact .inr ⟨hx, z⟩)
  rw [dS_rf] at m1
  have m2 := mv_1 (D := dS A) (P := pG n co m) (Q := pG n co (m ^^^ 2 ^ l)) (a := a) (c := p) (pL_12 wl) (pL_12 wl) (fun x hx => by rw [← q3]; exact pL_x1 hx)
  refine lsO_ex ⟨l, by omega, q1, q2, ?_⟩
  unfold rG
  rw [q3]
  omega
theorem cnt_eq {f g : Nat → Prop} : ∀ n, (∀ i, i < n → (f i ↔ g i)) → cntB f n = cntB g n
  | n, e => Nat.le_antisymm (cnt_mono n (fun i hi y => (e i hi).mp y)) (cnt_mono n (fun i hi y => (e i hi).mpr y))
theorem cnt_rm (fl : f l) (e : ∀ i, g i ↔ f i ∧ i ≠ l) : ∀ n, l < n → cntB g n + 1 = cntB f n
  | 0, h => absurd h (Nat.not_lt_zero _)
  | n + 1, h => by
    show cntB g n + one (g n) + 1 = cntB f n + one (f n)
    by_cases z : l = n
    · subst z
      rw [one_t fl, one_f (fun y => ((e l).mp y).2 rfl), cnt_eq l (fun i hi => (e i).trans ⟨fun y => y.1, fun y => ⟨y, by omega⟩⟩)]
    · have ih := cnt_rm fl e n (by omega)
      have : one (g n) = one (f n) := by
        by_cases y : f n
        · rw [one_t y, one_t ((e n).mpr ⟨y, fun q => z q.symm⟩)]
        · rw [one_f y, one_f (fun q => y ((e n).mp q).1)]
      omega
theorem cnt_some : ∀ n, 0 < cntB f n → ∃ i, i < n ∧ f i
  | 0, h => absurd h (Nat.lt_irrefl _)
  | n + 1, h => by
    by_cases y : f n
    · exact ⟨n, by omega, y⟩
    · have e : cntB f (n + 1) = cntB f n + one (f n) := rfl
      rw [e, one_f y] at h
      obtain ⟨i, h1, h2⟩ := cnt_some n (by omega)
      exact ⟨i, by omega, h2⟩
theorem cnt_all : ∀ n, (∀ i, i < n → f i) → cntB f n = n
  | 0, _ => rfl
  | n + 1, h => by
    show cntB f n + one (f n) = n + 1
    rw [cnt_all n (fun i hi => h i (by omega)), one_t (h n (by omega))]
theorem lc_le {D : Nat → Nat → Nat} : ∀ (cs : List Nat) (a : Nat), (∀ y, y ∈ cs → D a y ≤ 22) → (∀ x y, x ∈ cs → y ∈ cs → D x y ≤ 22) → lc D a cs ≤ 22 * cs.length
  | [], _, _, _ => Nat.zero_le _
  | c :: t, a, h1, h2 => by
    have el : lc D a (c :: t) = D a c + lc D c t := rfl
    have := lc_le t c (fun y hy => h2 c y List.mem_cons_self (List.mem_cons_of_mem _ hy)) (fun x y hx hy => h2 x y (List.mem_cons_of_mem _ hx) (List.mem_cons_of_mem _ hy))
    have := h1 c List.mem_cons_self
    rw [el, List.length_cons]
    omega
theorem co_22 (r : alR A n co c) {i j : Nat} (hi : i < n) (hj : j < n) : dS A (co i) (co j) ≤ 22 := by
  have t := dS_tri A (co i) c (co j)
  have := r i hi
  have := r j hj
  rw [dS_sy A _ c] at t
  omega
theorem rv_fin (wl : n ≤ 10 ∧ ∀ l, l < n → co l < 12) (r : alR A n co c) : rG A n co m c < 1000000 := by
  have w10 := wl.1
  have y := mv_le (D := dS A) (a := c) (pL_12 (m := m) wl) (cs := (List.range (n)).map (fun l => co l)) (fun x hx => by
    obtain ⟨l, h1, _, h3⟩ := hx
    exact List.mem_map.mpr ⟨l, List.mem_range.mpr h1, h3⟩)
  have z := lc_le (D := dS A) ((List.range (n)).map (fun l => co l)) c (fun y hy => by
    obtain ⟨l, h1, h2⟩ := List.mem_map.mp hy
    rw [← h2]
    have := r l (List.mem_range.mp h1)
    omega) (fun x y hx hy => by
    obtain ⟨l, h1, h2⟩ := List.mem_map.mp hx
    obtain ⟨l', h3, h4⟩ := List.mem_map.mp hy
    rw [← h2, ← h4]
    exact co_22 r (List.mem_range.mp h1) (List.mem_range.mp h3))
  rw [List.length_map, List.length_range] at z
  unfold rG
  omega
theorem rS_s (A : Nat → Nat) (n : Nat) (co : Nat → Nat) (c k : Nat) : rSt A n co c (k + 1) = ((rSt A n co c k).1 ^^^ 2 ^ rRow A n co c k, co (rRow A n co c k)) := rfl
theorem rS_in (wl : n ≤ 10 ∧ ∀ l, l < n → co l < 12) (fin : rG A n co (2 ^ n - 1) c < 1000000) : ∀ k, k ≤ n → (rSt A n co c k).1 < 2 ^ n ∧ cntB (fun l => (rSt A n co c k).1.testBit l = true) (n) + k = n ∧ rG A n co (rSt A n co c k).1 (rSt A n co c k).2 < 1000000 ∧ (k < n → lsO (cnd A n co (rSt A n co c k).1 (rSt A n co c k).2) (rRow A n co c k)) := by
  have lo : ∀ k, k < n → cntB (fun l => (rSt A n co c k).1.testBit l = true) (n) + k = n → rG A n co (rSt A n co c k).1 (rSt A n co c k).2 < 1000000 → lsO (cnd A n co (rSt A n co c k).1 (rSt A n co c k).2) (rRow A n co c k) := fun k hk h1 h2 => low_sp (cnd_ex wl (cnt_some (n) (by omega)) h2)
  intro k
  induction k with
  | zero =>
    intro _
    have p : 0 < 2 ^ n := Nat.two_pow_pos _
    have c0 : cntB (fun l => (rSt A n co c 0).1.testBit l = true) (n) = n := cnt_all _ (fun i hi => by
      show (2 ^ n - 1).testBit i = true
      rw [tb_full, decide_eq_true hi])
    refine ⟨by show 2 ^ n - 1 < 2 ^ n; omega, by rw [c0]; rfl, fin, fun hk => lo 0 hk (by rw [c0]; rfl) fin⟩
  | succ k ih =>
    intro hk
    obtain ⟨i1, i2, i3, i4⟩ := ih (by omega)
    obtain ⟨l1, ⟨l2, l3, l4⟩, _⟩ := i4 (by omega)
    have e := rS_s A n co c k
    have r2 : rG A n co (rSt A n co c (k + 1)).1 (rSt A n co c (k + 1)).2 < 1000000 := by
      rw [e]
      show rG A n co ((rSt A n co c k).1 ^^^ 2 ^ rRow A n co c k) (co (rRow A n co c k)) < 1000000
      omega
    have r1 : cntB (fun l => (rSt A n co c (k + 1)).1.testBit l = true) (n) + (k + 1) = n := by
      have := cnt_rm (f := fun l => (rSt A n co c k).1.testBit l = true) (g := fun l => (rSt A n co c (k + 1)).1.testBit l = true) (l := rRow A n co c k) l3 (fun i => by
        rw [e]
        show ((rSt A n co c k).1 ^^^ 2 ^ rRow A n co c k).testBit i = true ↔ _
        rw [tb_x]
        by_cases z : rRow A n co c k = i
        · rw [decide_eq_true z, ← z, l3]
          exact ⟨fun y => absurd y (by decide), fun y => absurd rfl y.2⟩
        · rw [decide_eq_false z, Bool.xor_false]
          exact ⟨fun y => ⟨y, Ne.symm z⟩, fun y => y.1⟩) (n) l2
      omega
    refine ⟨?_, r1, r2, fun hk2 => lo (k + 1) hk2 r1 r2⟩
    rw [e]
    exact Nat.xor_lt_two_pow i1 (Nat.pow_lt_pow_right (by decide) l2)
end RP
