/-! ===== shutters: choices of so many ways, in their order ===== -/
def cmL : Nat → Nat → List Nat
  | 0, _ => [0]
  | _ + 1, 0 => []
  | s + 1, u + 1 => cmL (s + 1) u ++ (cmL s u).map (fun x => 2 ^ u + x)
/-- the next higher number with as many bits -/
abbrev nxG (x : Int32) : Int32 := (x + (x &&& (-x))) ||| (((x ^^^ (x + (x &&& (-x)))) / (x &&& (-x))) >>> (2 &&& 31))
def ckG (e : Int32) : List Nat → Bool
  | [] => true
  | x :: R => (match R with
    | [] => decide ((nI x &&& (-(nI x))) = 0) || decide (e ≤ nxG (nI x))
    | y :: _ => decide (¬ (nI x &&& (-(nI x))) = 0) && decide (nxG (nI x) = nI y)) && ckG e R
theorem ck_all : ∀ u, u < 21 → ∀ s, s < 4 → s ≤ u → ckG (nI (2 ^ u)) (cmL s u) = true ∧ (cmL s u).head? = some (2 ^ s - 1) ∧ (cmL s u).length ≤ 1140 := by decide +kernel
def wN (p : Nat → Bool) (x : Nat) : Nat → Nat
  | 0 => 0
  | k + 1 => wN p x k + (if p k = true ∧ x.testBit (cb p k) = true then 2 ^ k else 0)
/-- the first that is good, and how many -/
noncomputable def foS (g : Nat → Prop) : List Nat → Nat × Nat → Nat × Nat
  | [], s => s
  | x :: R, s => foS g R (@ite _ (g x) (Classical.propDecidable _) (if s.1 = 0 then x + 1 else s.1, s.2 + 1) s)
section CM
variable {g g' : Nat → Prop} {p : Nat → Bool} {s n u x k : Nat} {st : Nat × Nat}
theorem foS_t (h : g x) {R : List Nat} : foS g (x :: R) st = foS g R (if st.1 = 0 then x + 1 else st.1, st.2 + 1) := by
  show foS g R (@ite _ (g x) (Classical.propDecidable _) _ st) = _
  rw [if_pos h]
theorem foS_f (h : ¬ g x) {R : List Nat} : foS g (x :: R) st = foS g R st := by
  show foS g R (@ite _ (g x) (Classical.propDecidable _) _ st) = _
  rw [if_neg h]
theorem foS_cat (g : Nat → Prop) : ∀ (L M : List Nat) (st : Nat × Nat), foS g (L ++ M) st = foS g M (foS g L st)
  | [], _, _ => rfl
  | x :: R, M, st => foS_cat g R M _
theorem foS_no : ∀ (L : List Nat) (st : Nat × Nat), (∀ x, x ∈ L → ¬ g x) → foS g L st = st
  | [], _, _ => rfl
  | x :: R, st, h => by
    rw [foS_f (h x (List.mem_cons_self ..))]
    exact foS_no R st (fun y hy => h y (List.mem_cons_of_mem _ hy))
/-- two lists, good at the same places, the good ones the same -/
theorem foS_map2 {a b : Nat → Nat} : ∀ (L : List Nat) (st : Nat × Nat), (∀ x, x ∈ L → a x = b x) → foS g (L.map a) st = foS g (L.map b) st
  | [], _, _ => rfl
  | x :: R, st, h => by
    rw [List.map_cons, List.map_cons, h x (List.mem_cons_self ..)]
    by_cases z : g (b x)
    · rw [foS_t z, foS_t z]; exact foS_map2 R _ (fun y hy => h y (List.mem_cons_of_mem _ hy))
    · rw [foS_f z, foS_f z]; exact foS_map2 R _ (fun y hy => h y (List.mem_cons_of_mem _ hy))
theorem cm_lt : ∀ (u s x : Nat), x ∈ cmL s u → x < 2 ^ u
  | u, 0, x, h => by
    have e : x = 0 := List.mem_singleton.mp (show x ∈ [0] by unfold cmL at h; exact h)
    rw [e]; exact Nat.two_pow_pos u
  | 0, s + 1, x, h => by
    unfold cmL at h
    exact absurd h (List.not_mem_nil)
  | u + 1, s + 1, x, h => by
    unfold cmL at h
    rw [Nat.pow_succ]
    rcases List.mem_append.mp h with y | y
    · have := cm_lt u (s + 1) x y
      omega
    · obtain ⟨z, hz, rfl⟩ := List.mem_map.mp y
      have := cm_lt u s z hz
      omega
theorem wN_lt (p : Nat → Bool) (x : Nat) : ∀ k, wN p x k < 2 ^ k
  | 0 => Nat.one_pos
  | k + 1 => by
    have := wN_lt p x k
    show wN p x k + (if _ then 2 ^ k else 0) < _
    rw [Nat.pow_succ]
    generalize 2 ^ k = P at *
    split <;> omega
theorem wN_0 (p : Nat → Bool) : ∀ k, wN p 0 k = 0
  | 0 => rfl
  | k + 1 => by
    show wN p 0 k + (if _ then 2 ^ k else 0) = _
    rw [wN_0 p k, if_neg (fun y => by rw [Nat.zero_testBit] at y; exact absurd y.2 (by decide))]
theorem wN_co {y : Nat} : ∀ k, (∀ j, j < cb p k → x.testBit j = y.testBit j) → wN p x k = wN p y k
  | 0, _ => rfl
  | k + 1, h => by
    show wN p x k + (if _ then 2 ^ k else 0) = wN p y k + (if _ then 2 ^ k else 0)
    rw [wN_co k (fun j hj => h j (by have := cb_mn p (show k ≤ k + 1 by omega); omega))]
    by_cases z : p k = true
    · rw [h (cb p k) (by rw [cb_t1 z]; omega)]
    · rw [if_neg (fun y => z y.1), if_neg (fun y => z y.1)]
theorem wN_top {K : Nat} (h : ∀ i, n ≤ i → p i = false) : ∀ d, wN p x (n + d) = wN p x n ∧ cb p (n + d) = cb p n
  | 0 => ⟨rfl, rfl⟩
  | d + 1 => by
    obtain ⟨h1, h2⟩ := wN_top (K := K) h d
    have f : p (n + d) = false := h _ (by omega)
    refine ⟨?_, ?_⟩
    · show wN p x (n + d) + (if p (n + d) = true ∧ x.testBit (cb p (n + d)) = true then 2 ^ (n + d) else 0) = _
      rw [if_neg (fun y => by rw [f] at y; exact absurd y.1 (by decide)), h1]; rfl
    · rw [show n + (d + 1) = (n + d) + 1 by omega, cb_t0 f, h2]
/-- choices of ways that are good are choices of unshuttered ways -/
theorem foS_un (p : Nat → Bool) : ∀ (n s : Nat) (f : Nat → Nat) (st : Nat × Nat), (∀ x, x < 2 ^ n → g (f x) → ∀ i, i < n → x.testBit i = true → p i = true) → foS g ((cmL s n).map f) st = foS g ((cmL s (cb p n)).map (fun x => f (wN p x n))) st
  | n, 0, f, st, _ => by
    have e : ∀ u, cmL 0 u = [0] := fun u => by unfold cmL; rfl
    rw [e, e, List.map_singleton, List.map_singleton, wN_0]
  | 0, s + 1, f, st, _ => by
    have e : cmL (s + 1) 0 = [] := by unfold cmL; rfl
    rw [show cb p 0 = 0 from rfl, e]; rfl
  | n + 1, s + 1, f, st, h => by
    have e : ∀ u, cmL (s + 1) (u + 1) = cmL (s + 1) u ++ (cmL s u).map (fun x => 2 ^ u + x) := fun u => by
      conv => lhs; unfold cmL
    have p2 : 2 ^ (n + 1) = 2 * 2 ^ n := by rw [Nat.pow_succ, Nat.mul_comm]
    have ih1 := foS_un p n (s + 1) f st (fun x hx gx i hi t => h x (by omega) gx i (by omega) t)
    rw [e n, List.map_append, List.map_map, foS_cat, ih1]
    cases hp : p n with
    | true =>
      rw [cb_t1 hp, e, List.map_append, List.map_map, foS_cat]
      have ih2 := foS_un p n s (fun x => f (2 ^ n + x)) (foS g ((cmL (s + 1) (cb p n)).map (fun x => f (wN p x n))) st) (fun x hx gx i hi t => h (2 ^ n + x) (by omega) gx i (by omega) (by rw [Nat.testBit_two_pow_add_gt hi]; exact t))
      have q1 : foS g ((cmL (s + 1) (cb p n)).map (fun x => f (wN p x (n + 1)))) st = foS g ((cmL (s + 1) (cb p n)).map (fun x => f (wN p x n))) st := by
        refine foS_map2 _ _ (fun x hx => congrArg f ?_)
        have := cm_lt _ _ _ hx
        show wN p x n + (if _ then 2 ^ n else 0) = _
        rw [if_neg (fun y => by rw [Nat.testBit_lt_two_pow this] at y; exact absurd y.2 (by decide))]; rfl
      rw [q1]
      refine Eq.trans ih2 (foS_map2 _ _ (fun x hx => ?_))
      have lt := cm_lt _ _ _ hx
      show f (2 ^ n + wN p x n) = f (wN p (2 ^ cb p n + x) n + (if _ then 2 ^ n else 0))
      rw [if_pos ⟨hp, by rw [Nat.testBit_two_pow_add_eq, Nat.testBit_lt_two_pow lt]; rfl⟩, wN_co (x := 2 ^ cb p n + x) (y := x) n (fun j hj => Nat.testBit_two_pow_add_gt hj _), Nat.add_comm]
    | false =>
      rw [cb_t0 hp, foS_no _ _ (fun y hy => ?_)]
      · refine foS_map2 _ _ (fun x _ => congrArg f ?_)
        show _ = wN p x n + (if _ then 2 ^ n else 0)
        rw [if_neg (fun y => by rw [hp] at y; exact absurd y.1 (by decide))]; rfl
      · obtain ⟨x, hx, rfl⟩ := List.mem_map.mp hy
        have lt := cm_lt _ _ _ hx
        intro gy
        have := h (2 ^ n + x) (by omega) gy n (by omega) (by rw [Nat.testBit_two_pow_add_eq, Nat.testBit_lt_two_pow lt]; rfl)
        rw [hp] at this
        exact absurd this (by decide)
theorem foS_z : ∀ (L : List Nat) (st : Nat × Nat), (st.1 = 0 ↔ st.2 = 0) → ((foS g L st).1 = 0 ↔ (foS g L st).2 = 0)
  | [], _, h => h
  | x :: R, st, h => by
    by_cases z : g x
    · rw [foS_t z]
      refine foS_z R _ ⟨fun y => ?_, fun y => absurd y (Nat.succ_ne_zero _)⟩
      have y' : (if st.1 = 0 then x + 1 else st.1) = 0 := y
      split at y'
      · omega
      · omega
    · rw [foS_f z]; exact foS_z R _ h
theorem foS_le : ∀ (L : List Nat) (st : Nat × Nat), (foS g L st).2 ≤ st.2 + L.length
  | [], _ => Nat.le_refl _
  | x :: R, st => by
    by_cases z : g x
    · rw [foS_t z]
      have := foS_le R (if st.1 = 0 then x + 1 else st.1, st.2 + 1)
      rw [List.length_cons]
      have e : (if st.1 = 0 then x + 1 else st.1, st.2 + 1).2 = st.2 + 1 := rfl
      omega
    · rw [foS_f z]
      have := foS_le R st
      rw [List.length_cons]
      omega
theorem foS_in : ∀ (L : List Nat) (st : Nat × Nat), (foS g L st).1 = st.1 ∨ ∃ x, x ∈ L ∧ (foS g L st).1 = x + 1
  | [], _ => .inl rfl
  | x :: R, st => by
    by_cases z : g x
    · rw [foS_t z]
      obtain ⟨T, eT⟩ : ∃ T, T = (if st.1 = 0 then x + 1 else st.1) := ⟨_, rfl⟩
      rw [← eT]
      rcases foS_in R (T, st.2 + 1) with y | ⟨x', h1, h2⟩
      · by_cases w : st.1 = 0
        · rw [if_pos w] at eT
          exact .inr ⟨x, List.mem_cons_self .., y.trans eT⟩
        · rw [if_neg w] at eT
          exact .inl (y.trans eT)
      · exact .inr ⟨x', List.mem_cons_of_mem _ h1, h2⟩
    · rw [foS_f z]
      rcases foS_in R st with y | ⟨x', h1, h2⟩
      · exact .inl y
      · exact .inr ⟨x', List.mem_cons_of_mem _ h1, h2⟩
/-- the fewest, among four sizes -/
noncomputable def shR (g : Nat → Prop) (n : Nat) : Nat → Nat × Nat
  | 0 => foS g (cmL 0 n) (0, 0)
  | s + 1 => if (shR g n s).1 = 0 then foS g (cmL (s + 1) n) (0, 0) else shR g n s
end CM
