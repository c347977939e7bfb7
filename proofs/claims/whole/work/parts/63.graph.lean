/-! ===== walks and how far ===== -/
def wk (E : Nat → Nat → Prop) : Nat → Nat → Nat → Prop
  | 0, a, b => a = b
  | n + 1, a, b => ∃ c, wk E n a c ∧ E c b
noncomputable def one (p : Prop) : Nat := @ite Nat p (Classical.propDecidable p) 1 0
theorem one_t {p : Prop} (h : p) : one p = 1 := by unfold one; rw [if_pos h]
theorem one_f {p : Prop} (h : ¬ p) : one p = 0 := by unfold one; rw [if_neg h]
noncomputable def cntB (f : Nat → Prop) : Nat → Nat
  | 0 => 0
  | k + 1 => cntB f k + one (f k)
theorem cnt_le (f : Nat → Prop) : ∀ k, cntB f k ≤ k
  | 0 => Nat.le_refl _
  | k + 1 => by
    have := cnt_le f k
    show cntB f k + one (f k) ≤ k + 1
    by_cases c : f k
    · rw [one_t c]; omega
    · rw [one_f c]; omega
theorem cnt_mono {f g : Nat → Prop} : ∀ k, (∀ i, i < k → f i → g i) → cntB f k ≤ cntB g k
  | 0, _ => Nat.le_refl _
  | k + 1, h => by
    have := cnt_mono k (fun i hi => h i (by omega))
    show cntB f k + one (f k) ≤ cntB g k + one (g k)
    by_cases c : f k
    · rw [one_t c, one_t (h k (by omega) c)]; omega
    · rw [one_f c]; omega
theorem cnt_lt {f g : Nat → Prop} : ∀ k, (∀ i, i < k → f i → g i) → (∃ i, i < k ∧ ¬ f i ∧ g i) → cntB f k < cntB g k
  | 0, _, ⟨i, hi, _⟩ => absurd hi (Nat.not_lt_zero _)
  | k + 1, h, ⟨i, hi, h1, h2⟩ => by
    show cntB f k + one (f k) < cntB g k + one (g k)
    by_cases e : i = k
    · subst e
      have := cnt_mono i (fun j hj => h j (by omega))
      rw [one_f h1, one_t h2]; omega
    · have := cnt_lt k (fun j hj => h j (by omega)) ⟨i, by omega, h1, h2⟩
      by_cases c : f k
      · rw [one_t c, one_t (h k (by omega) c)]; omega
      · rw [one_f c]; omega
section GR
variable {E : Nat → Nat → Prop} {a b c n m : Nat}
theorem wk_cat : ∀ {m : Nat} {b : Nat}, wk E n a c → wk E m c b → wk E (n + m) a b
  | 0, b, h1, h2 => by
    have : c = b := h2
    subst this
    exact h1
  | m + 1, b, h1, ⟨d, h2, h3⟩ => ⟨d, wk_cat h1 h2, h3⟩
/-- the least length of a walk -/
def lst (E : Nat → Nat → Prop) (a b n : Nat) : Prop := wk E n a b ∧ ∀ m, m < n → ¬ wk E m a b
theorem lst_of : ∀ n, wk E n a b → ∃ m, m ≤ n ∧ lst E a b m := by
  intro n
  induction n using Nat.strongRecOn with
  | _ n ih =>
    intro h
    by_cases c : ∃ m, m < n ∧ wk E m a b
    · obtain ⟨m, hm, h2⟩ := c
      obtain ⟨k, hk, h3⟩ := ih m hm h2
      exact ⟨k, by omega, h3⟩
    · exact ⟨n, Nat.le_refl _, h, fun m hm h2 => c ⟨m, hm, h2⟩⟩
/-- on the way to a corner at n lies one at each smaller length -/
theorem lst_pre : ∀ (k : Nat) {b : Nat}, lst E a b (n + k) → ∃ c, lst E a c n
  | 0, b, h => ⟨b, h⟩
  | k + 1, b, ⟨⟨c, h1, h2⟩, h3⟩ => lst_pre k (b := c) ⟨h1, fun m hm hw => h3 (m + 1) (by omega) ⟨c, hw, h2⟩⟩
theorem wk_in (hE : ∀ x y, E x y → x < 12 ∧ y < 12) (ha : a < 12) : ∀ {n b : Nat}, wk E n a b → b < 12
  | 0, b, h => by
    have : a = b := h
    omega
  | n + 1, b, ⟨c, _, h2⟩ => (hE c b h2).2
/-- twelve corners: no way is longer than eleven -/
theorem lst_lt (hE : ∀ x y, E x y → x < 12 ∧ y < 12) (ha : a < 12) (h : lst E a b n) : n < 12 := by
  rcases Nat.lt_or_ge n 12 with q | q
  · exact q
  exfalso
  have key : ∀ d, d ≤ 12 → d + 1 ≤ cntB (fun x => ∃ k, k ≤ d ∧ wk E k a x) 12 := by
    intro d
    induction d with
    | zero =>
      intro _
      have h0 : cntB (fun _ => False) 12 < cntB (fun x => ∃ k, k ≤ 0 ∧ wk E k a x) 12 := cnt_lt 12 (fun i _ q => absurd q id) ⟨a, ha, id, 0, Nat.le_refl _, rfl⟩
      omega
    | succ d ih =>
      intro hd
      have h1 := ih (by omega)
      obtain ⟨x, hx⟩ : ∃ x, lst E a x (d + 1) := lst_pre (n - (d + 1)) (b := b) (by rw [show d + 1 + (n - (d + 1)) = n by omega]; exact h)
      have h2 : cntB (fun x => ∃ k, k ≤ d ∧ wk E k a x) 12 < cntB (fun x => ∃ k, k ≤ d + 1 ∧ wk E k a x) 12 := cnt_lt 12 (fun i _ ⟨k, hk, hw⟩ => ⟨k, by omega, hw⟩) ⟨x, wk_in hE ha hx.1, fun ⟨k, hk, hw⟩ => hx.2 k (by omega) hw, d + 1, Nat.le_refl _, hx.1⟩
      omega
  have h1 := key 12 (Nat.le_refl _)
  have h2 := cnt_le (fun x => ∃ k, k ≤ 12 ∧ wk E k a x) 12
  omega
theorem wk_short (hE : ∀ x y, E x y → x < 12 ∧ y < 12) (ha : a < 12) (h : wk E n a b) : ∃ m, m < 12 ∧ m ≤ n ∧ lst E a b m := by
  obtain ⟨m, hm, h2⟩ := lst_of n h
  exact ⟨m, lst_lt hE ha h2, hm, h2⟩
/-- how far: NONE, or the least length -/
def dst (E : Nat → Nat → Prop) (a b : Nat) (v : Int32) : Prop := (v = -1 ∧ ∀ n, ¬ wk E n a b) ∨ ∃ n, v = nI n ∧ n < 12 ∧ lst E a b n
theorem lst_u (h1 : lst E a b n) (h2 : lst E a b m) : n = m := by
  rcases Nat.lt_trichotomy n m with q | q | q
  · exact absurd h1.1 (h2.2 n q)
  · exact q
  · exact absurd h2.1 (h1.2 m q)
theorem dst_u {v w : Int32} (h1 : dst E a b v) (h2 : dst E a b w) : v = w := by
  rcases h1 with ⟨e1, q1⟩ | ⟨n1, e1, l1, q1⟩ <;> rcases h2 with ⟨e2, q2⟩ | ⟨n2, e2, l2, q2⟩
  · rw [e1, e2]
  · exact absurd q2.1 (q1 _)
  · exact absurd q1.1 (q2 _)
  · rw [e1, e2, lst_u q1 q2]
/-! ## paths by inner corners -/
def pl (E : Nat → Nat → Prop) : Nat → Nat → Nat → Nat → Prop
  | 0, l, a, b => (a = b ∧ l = 0) ∨ (E a b ∧ l = 1)
  | m + 1, l, a, b => pl E m l a b ∨ ∃ l1 l2, l = l1 + l2 ∧ pl E m l1 a m ∧ pl E m l2 m b
theorem pl_up {l a b : Nat} : ∀ (k : Nat) {m : Nat}, pl E m l a b → pl E (m + k) l a b
  | 0, _, h => h
  | k + 1, m, h => .inl (pl_up k h)
theorem pl_cat : ∀ (m : Nat) {k a b l1 l2 : Nat}, k < m → pl E m l1 a k → pl E m l2 k b → ∃ l, l ≤ l1 + l2 ∧ pl E m l a b
  | 0, k, _, _, _, _, hk, _, _ => absurd hk (Nat.not_lt_zero _)
  | m + 1, k, a, b, l1, l2, hk, h1, h2 => by
    by_cases e : k = m
    · subst e
      have f : ∀ {l x : Nat}, pl E (k + 1) l x k → ∃ l', l' ≤ l ∧ pl E k l' x k := by
        intro l x h
        rcases h with h | ⟨u1, u2, e, q1, q2⟩
        · exact ⟨l, Nat.le_refl _, h⟩
        · exact ⟨u1, by omega, q1⟩
      have g : ∀ {l x : Nat}, pl E (k + 1) l k x → ∃ l', l' ≤ l ∧ pl E k l' k x := by
        intro l x h
        rcases h with h | ⟨u1, u2, e, q1, q2⟩
        · exact ⟨l, Nat.le_refl _, h⟩
        · exact ⟨u2, by omega, q2⟩
      obtain ⟨v1, hv1, p1⟩ := f h1
      obtain ⟨v2, hv2, p2⟩ := g h2
      exact ⟨v1 + v2, by omega, .inr ⟨v1, v2, rfl, p1, p2⟩⟩
    · have hk2 : k < m := by omega
      rcases h1 with h1 | ⟨u1, u2, e1, q1, q2⟩ <;> rcases h2 with h2 | ⟨u3, u4, e2, q3, q4⟩
      · obtain ⟨l, hl, p⟩ := pl_cat m hk2 h1 h2
        exact ⟨l, hl, .inl p⟩
      · obtain ⟨l, hl, p⟩ := pl_cat m hk2 h1 q3
        exact ⟨l + u4, by omega, .inr ⟨l, u4, rfl, p, q4⟩⟩
      · obtain ⟨l, hl, p⟩ := pl_cat m hk2 q2 h2
        exact ⟨u1 + l, by omega, .inr ⟨u1, l, rfl, q1, p⟩⟩
      · exact ⟨u1 + u4, by omega, .inr ⟨u1, u4, rfl, q1, q4⟩⟩
theorem pl_of (hE : ∀ x y, E x y → x < 12 ∧ y < 12) (a : Nat) : ∀ (n : Nat) {b : Nat}, wk E n a b → ∃ l, l ≤ n ∧ pl E 12 l a b
  | 0, b, h => ⟨0, Nat.le_refl _, pl_up 12 (m := 0) (.inl ⟨h, rfl⟩)⟩
  | n + 1, b, ⟨c, h1, h2⟩ => by
    obtain ⟨l, hl, p⟩ := pl_of hE a n h1
    have p2 : pl E 12 1 c b := pl_up 12 (m := 0) (.inr ⟨h2, rfl⟩)
    obtain ⟨l', hl', p3⟩ := pl_cat 12 (hE c b h2).1 p p2
    exact ⟨l', by omega, p3⟩
/-! ## the model's table: what holds of it -/
def fwA (E : Nat → Nat → Prop) (r : Nat → Nat) : Prop := (∀ a b, a < 12 → b < 12 → r (12 * a + b) ≤ 1000000) ∧ ∀ a b, a < 12 → b < 12 → r (12 * a + b) < 1000000 → wk E (r (12 * a + b)) a b
def fwC (E : Nat → Nat → Prop) (r : Nat → Nat) (m a b : Nat) : Prop := ∀ l, l < 1000000 → pl E m l a b → r (12 * a + b) ≤ l
/-- one entry by way of m -/
def fwS (r : Nat → Nat) (m a b : Nat) : Nat → Nat := fun i => if i = 12 * a + b then min (r (12 * a + b)) (r (12 * a + m) + r (12 * m + b)) else r i
theorem fwS_le (r : Nat → Nat) (m a b i : Nat) : fwS r m a b i ≤ r i := by
  unfold fwS
  by_cases c : i = 12 * a + b
  · subst c; rw [if_pos rfl]; omega
  · rw [if_neg c]; exact Nat.le_refl _
theorem fwA_S {r : Nat → Nat} (hm : m < 12) (ha : a < 12) (hb : b < 12) (h : fwA E r) : fwA E (fwS r m a b) := by
  refine ⟨fun x y hx hy => Nat.le_trans (fwS_le r m a b _) (h.1 x y hx hy), fun x y hx hy hlt => ?_⟩
  unfold fwS at hlt ⊢
  by_cases c : 12 * x + y = 12 * a + b
  · have e1 : x = a := by omega
    have e2 : y = b := by omega
    subst e1 e2
    rw [if_pos rfl] at hlt ⊢
    rcases Nat.le_total (r (12 * x + y)) (r (12 * x + m) + r (12 * m + y)) with q | q
    · rw [Nat.min_eq_left q] at hlt ⊢
      exact h.2 x y hx hy hlt
    · rw [Nat.min_eq_right q] at hlt ⊢
      exact wk_cat (h.2 x m hx hm (by omega)) (h.2 m y hm hy (by omega))
  · rw [if_neg c] at hlt ⊢
    exact h.2 x y hx hy hlt
theorem fwC_S {r : Nat → Nat} {k x y : Nat} (h : fwC E r k x y) : fwC E (fwS r m a b) k x y := fun l hl p => Nat.le_trans (fwS_le r m a b _) (h l hl p)
theorem fwC_n {r : Nat → Nat} (h0 : fwC E r m a b) (h1 : fwC E r m a m) (h2 : fwC E r m m b) : fwC E (fwS r m a b) (m + 1) a b := by
  intro l hl p
  unfold fwS
  rw [if_pos rfl]
  rcases p with p | ⟨l1, l2, e, p1, p2⟩
  · have := h0 l hl p; omega
  · have := h1 l1 (by omega) p1
    have := h2 l2 (by omega) p2
    omega
theorem fw_end {r : Nat → Nat} (hE : ∀ x y, E x y → x < 12 ∧ y < 12) (ha : a < 12) (hb : b < 12) (h : fwA E r) (hc : fwC E r 12 a b) : dst E a b (if r (12 * a + b) < 1000000 then nI (r (12 * a + b)) else -1) := by
  by_cases c : r (12 * a + b) < 1000000
  · rw [if_pos c]
    have hw := h.2 a b ha hb c
    obtain ⟨m, hm, hm2, hl⟩ := wk_short hE ha hw
    obtain ⟨l, hl2, p⟩ := pl_of hE a m hl.1
    have := hc l (by omega) p
    have e : r (12 * a + b) = m := by omega
    rw [e]
    exact .inr ⟨m, rfl, hm, hl⟩
  · rw [if_neg c]
    refine .inl ⟨rfl, fun n hw => ?_⟩
    obtain ⟨m, hm, hm2, hl⟩ := wk_short hE ha hw
    obtain ⟨l, hl2, p⟩ := pl_of hE a m hl.1
    have := hc l (by omega) p
    omega
end GR
