/-! ===== night on both sides ===== -/
theorem cb_pos {f : Nat → Bool} : ∀ {n : Nat}, 0 < cb f n ↔ ∃ k, k < n ∧ f k = true
  | 0 => ⟨fun y => absurd y (by show ¬ 0 < 0; omega), fun ⟨k, hk, _⟩ => by omega⟩
  | n + 1 => by
    show 0 < cb f n + (if f n = true then 1 else 0) ↔ _
    constructor
    · intro y
      by_cases z : f n = true
      · exact ⟨n, by omega, z⟩
      · rw [if_neg z] at y
        obtain ⟨k, hk, w⟩ := cb_pos.mp (show 0 < cb f n by omega)
        exact ⟨k, by omega, w⟩
    · rintro ⟨k, hk, w⟩
      by_cases z : k = n
      · subst z; rw [if_pos w]; omega
      · have := cb_pos.mpr ⟨k, (show k < n by omega), w⟩
        omega
theorem cb_one (g : Nat → Bool) (l : Nat) : ∀ n, cb (fun k => g k && decide (k = l)) n = if l < n ∧ g l = true then 1 else 0
  | 0 => by rw [if_neg (fun y => by omega)]; rfl
  | n + 1 => by
    show cb _ n + (if (g n && decide (n = l)) = true then 1 else 0) = _
    rw [cb_one g l n]
    by_cases z : n = l
    · subst z
      rw [if_neg (fun y => by omega), decide_eq_true rfl, Bool.and_true]
      by_cases w : g n = true
      · rw [if_pos w, if_pos ⟨by omega, w⟩]
      · rw [if_neg w, if_neg (fun y => w y.2)]
    · rw [decide_eq_false z, Bool.and_false]
      by_cases w : l < n ∧ g l = true
      · rw [if_pos w, if_pos (⟨by omega, w.2⟩ : l < n + 1 ∧ g l = true)]; rfl
      · rw [if_neg w, if_neg (fun y : l < n + 1 ∧ g l = true => w ⟨by omega, y.2⟩)]; rfl
theorem ct_one (f : Nat → Nat → Bool) {l n : Nat} (hl : l < n) : ∀ M, ct (fun m k => f m k && decide (k = l)) n M = cb (fun m => f m l) M
  | 0 => rfl
  | M + 1 => by
    show ct _ n M + cb (fun k => f M k && decide (k = l)) n = cb _ M + (if f M l = true then 1 else 0)
    rw [ct_one f hl M, cb_one (f M) l n]
    congr 1
    by_cases w : f M l = true
    · rw [if_pos w, if_pos ⟨hl, w⟩]
    · rw [if_neg w, if_neg (fun y => w y.2)]
def sk (f : Nat → Nat → Bool) (M : Nat) : Nat → Nat
  | 0 => 0
  | k + 1 => sk f M k + cb (fun m => f m k) M
theorem sk_s (f : Nat → Nat → Bool) (M : Nat) : ∀ n, sk f (M + 1) n = sk f M n + cb (f M) n
  | 0 => rfl
  | n + 1 => by
    show sk f (M + 1) n + (cb (fun m => f m n) M + (if f M n = true then 1 else 0)) = sk f M n + cb (fun m => f m n) M + (cb (f M) n + (if f M n = true then 1 else 0))
    rw [sk_s f M n]
    omega
theorem ct_sk (f : Nat → Nat → Bool) (n : Nat) : ∀ M, ct f n M = sk f M n
  | 0 => by
    show 0 = sk f 0 n
    induction n with
    | zero => rfl
    | succ n ih => show 0 = sk f 0 n + 0; omega
  | M + 1 => by
    show ct f n M + cb (f M) n = _
    rw [ct_sk f n M, sk_s]
theorem ct_ext {f g : Nat → Nat → Bool} {n : Nat} : ∀ {M : Nat}, (∀ m, m < M → ∀ k, k < n → f m k = g m k) → ct f n M = ct g n M
  | 0, _ => rfl
  | M + 1, e => by
    show ct f n M + cb (f M) n = ct g n M + cb (g M) n
    rw [ct_ext (fun m hm => e m (by omega)), cb_ext (fun k hk => e M (by omega) k hk)]
/-- the first minute, and one -/
def fstM (o : Nat → Nat → Bool) (n : Nat) : Nat → Nat
  | 0 => 0
  | m + 1 => if fstM o n m = 0 ∧ 0 < cb (o m) n then m + 1 else fstM o n m
theorem fstM_st {o : Nat → Nat → Bool} {n : Nat} {m : Nat} (h : fstM o n m ≠ 0) : ∀ d, fstM o n (m + d) = fstM o n m
  | 0 => rfl
  | d + 1 => by
    show (if fstM o n (m + d) = 0 ∧ 0 < cb (o (m + d)) n then m + d + 1 else fstM o n (m + d)) = _
    rw [if_neg (fun y => h (by rw [← fstM_st h d]; exact y.1)), fstM_st h d]
theorem fstM_le (o : Nat → Nat → Bool) (n : Nat) : ∀ m, fstM o n m ≤ m
  | 0 => Nat.le_refl _
  | m + 1 => by
    show (if fstM o n m = 0 ∧ 0 < cb (o m) n then m + 1 else fstM o n m) ≤ m + 1
    have := fstM_le o n m
    split <;> omega
theorem fo_step {F c m : Nat} {o : Bool} : (if o = true ∧ (if F = 0 ∧ 0 < c then m + 1 else F) = 0 then nI m else nO (if F = 0 ∧ 0 < c then m + 1 else F)) = nO (if F = 0 ∧ 0 < c + (if o = true then 1 else 0) then m + 1 else F) := by
  by_cases f : F = 0
  · by_cases c0 : 0 < c
    · have h1 : F = 0 ∧ 0 < c := ⟨f, c0⟩
      have h2 : F = 0 ∧ 0 < c + (if o = true then 1 else 0) := ⟨f, by omega⟩
      rw [if_pos h1, if_pos h2, if_neg (fun y : o = true ∧ m + 1 = 0 => by have := y.2; omega)]
    · have h1 : ¬ (F = 0 ∧ 0 < c) := fun y => c0 y.2
      rw [if_neg h1]
      cases o with
      | true => rw [if_pos (⟨rfl, f⟩ : true = true ∧ F = 0), if_pos (⟨f, by show 0 < c + 1; omega⟩ : F = 0 ∧ 0 < c + (if true = true then 1 else 0)), nO_s]
      | false => rw [if_neg (fun y : false = true ∧ F = 0 => absurd y.1 (by decide)), if_neg (fun y : F = 0 ∧ 0 < c + (if false = true then 1 else 0) => c0 y.2)]
  · have h1 : ¬ (F = 0 ∧ 0 < c) := fun y => f y.1
    have h2 : ¬ (F = 0 ∧ 0 < c + (if o = true then 1 else 0)) := fun y => f y.1
    rw [if_neg h1, if_neg h2, if_neg (fun y : o = true ∧ F = 0 => f y.2)]
section NI
variable {KX : ah_T → Prop} {RX WX SX : (Nat → Nat) → ah_T → Prop} {A A' : Nat → Nat} {h h' h2 g : ah_T} {g0 n : Nat}
theorem c_firstOut {Q : Option Value → ah_T → Prop} (hs : Sh h) (r : chR A h) (h10 : A 246 ≤ 10) {x1 : Int32} {fl : Nat → Bool} (hf : ∀ k, k < A 246 → bt x1 k = fl k) (hq : Q (some (.int (nO (fstM (fun m k => outM A (nd0 A) m k && fl k) (A 246) 120)))) h) : Mt mX0_firstOut [.ref 54, .int x1] h Q := by
  have lp : ∀ (q m : Nat), m + q = 120 → fstM (fun m k => outM A (nd0 A) m k && fl k) (A 246) m = 0 → Wp mX0_firstOut Q 0 0 2 [some (.ref 54), some (.int x1), some (.int (nI m))] [] h := by
    intro q
    induction q with
    | zero =>
      intro m hm f0
      have e9 : m = 120 := by omega
      subst e9
      refine T_X0_firstOut_2 hs _ _ ?_
      (first | refine ⟨fun _ => ?_, fun n_ => absurd (show 120 ≤ nI 120 from nI_le (a := 120) (by omega) (by omega)) n_⟩ | refine ⟨fun n_ => absurd (show 120 ≤ nI 120 from nI_le (a := 120) (by omega) (by omega)) n_, fun _ => ?_⟩ | refine ⟨fun y_ => absurd y_ (show 120 ≤ nI 120 from nI_le (a := 120) (by omega) (by omega)), fun _ => ?_⟩ | refine ⟨fun _ => ?_, fun y_ => absurd y_ (show 120 ≤ nI 120 from nI_le (a := 120) (by omega) (by omega))⟩)
      rw [f0] at hq
      exact hq
    | succ q ih =>
      intro m hm f0
      refine T_X0_firstOut_2 hs _ _ ?_
      (first | refine ⟨fun _ => ?_, fun n_ => absurd (show ¬ 120 ≤ nI m from nI_ge (b := 120) (by omega) (by omega)) n_⟩ | refine ⟨fun n_ => absurd (show ¬ 120 ≤ nI m from nI_ge (b := 120) (by omega) (by omega)) n_, fun _ => ?_⟩ | refine ⟨fun y_ => absurd y_ (show ¬ 120 ≤ nI m from nI_ge (b := 120) (by omega) (by omega)), fun _ => ?_⟩ | refine ⟨fun _ => ?_, fun y_ => absurd y_ (show ¬ 120 ≤ nI m from nI_ge (b := 120) (by omega) (by omega))⟩)
      rw [nI_1, nI_clamp (show m < 2 ^ 31 by omega), sh_n hs 56 120 (by decide) (by decide) rfl]
      have rm := (r m (by omega)).2.1
      have sN : fstM (fun m k => outM A (nd0 A) m k && fl k) (A 246) (m + 1) = (if fstM (fun m k => outM A (nd0 A) m k && fl k) (A 246) m = 0 ∧ 0 < cb (fun k => outM A (nd0 A) m k && fl k) (A 246) then m + 1 else fstM (fun m k => outM A (nd0 A) m k && fl k) (A 246) m) := rfl
      refine ⟨(vp_nI (by omega)).mpr (by omega), fun z => ih (m + 1) (by omega) ?_, fun z => ?_⟩
      · rw [sN, if_neg (fun y => ?_)]
        · exact f0
        · obtain ⟨k, hk, w⟩ := cb_pos.mp y.2
          obtain ⟨w1, w2⟩ := Bool.and_eq_true_iff.mp w
          have b1 := (rm k (by omega)).mpr ⟨hk, w1⟩
          have b2 : bt (ah_i h 56 m &&& x1) k = true := by rw [b_and, b1, hf k hk, w2]; rfl
          rw [z, b_0] at b2
          exact absurd b2 (by decide)
      · obtain ⟨i, hi, w⟩ := bt_ne z
        rw [b_and, Bool.and_eq_true, rm i hi] at w
        obtain ⟨⟨w1, w2⟩, w3⟩ := w
        rw [hf i w1] at w3
        have p : 0 < cb (fun k => outM A (nd0 A) m k && fl k) (A 246) := cb_pos.mpr ⟨i, w1, by show (_ && _) = true; rw [w2, w3]; rfl⟩
        rw [if_pos ⟨f0, p⟩] at sN
        have := fstM_st (o := fun m k => outM A (nd0 A) m k && fl k) (n := A 246) (m := m + 1) (by omega) (119 - m)
        rw [show m + 1 + (119 - m) = 120 by omega, sN] at this
        rw [this, nO_s] at hq
        exact hq
  exact T_X0_firstOut hs _ (lp 120 0 (by omega) rfl)
/-- lamps from one to another, over all minutes -/
theorem c_sum {Q : Option Value → ah_T → Prop} (hs : Sh h) (r : chR A h) (h10 : A 246 ≤ 10) {w hi : Nat} (hw : w = 0 ∨ w = 1) {x4 : Int32} (e4 : x4 = nO hi) (hh : hi ≤ A 246) : ∀ (q k : Nat) (s : Nat), k + q = hi → s ≤ 12000 - 1200 * q → (∀ v, v = (if w = 0 then sk (litM A (nd0 A)) 120 hi else sk (outM A (nd0 A)) 120 hi) - (if w = 0 then sk (litM A (nd0 A)) 120 k else sk (outM A (nd0 A)) 120 k) + s → Q (some (.int (nI v))) h) → (if w = 0 then sk (litM A (nd0 A)) 120 k else sk (outM A (nd0 A)) 120 k) ≤ (if w = 0 then sk (litM A (nd0 A)) 120 hi else sk (outM A (nd0 A)) 120 hi) → Wp mX11_night Q 0 0 107 [some (.ref 0), none, some (.int (nI w)), none, some (.int x4), some (.int (nI s)), some (.int (nI k))] [] h := by
  intro q
  induction q with
  | zero =>
    intro k s hk hs2 hq _
    have e9 : k = hi := by omega
    subst e9
    refine T_X11_night_107 hs _ _ _ _ ?_
    have lt : x4 < nI k := by
      rw [e4]
      cases k with
      | zero => show nO 0 < nI 0; decide
      | succ k => rw [nO_s]; exact nI_lt (by omega) (by omega)
    (first | refine ⟨fun _ => ?_, fun n_ => absurd (lt) n_⟩ | refine ⟨fun n_ => absurd (lt) n_, fun _ => ?_⟩ | refine ⟨fun y_ => absurd y_ (lt), fun _ => ?_⟩ | refine ⟨fun _ => ?_, fun y_ => absurd y_ (lt)⟩)
    exact hq s (by omega)
  | succ q ih =>
    intro k s hk hs2 hq le
    have hk2 : k < A 246 := by omega
    refine T_X11_night_107 hs _ _ _ _ ?_
    have nl : ¬ x4 < nI k := by
      rw [e4, show hi = (hi - 1) + 1 by omega, nO_s, nI_ltI (by omega) (by omega)]
      omega
    (first | refine ⟨fun _ => ?_, fun n_ => absurd (nl) n_⟩ | refine ⟨fun n_ => absurd (nl) n_, fun _ => ?_⟩ | refine ⟨fun y_ => absurd y_ (nl), fun _ => ?_⟩ | refine ⟨fun _ => ?_, fun y_ => absurd y_ (nl)⟩)
    have c1 : ∀ f, cb f 120 ≤ 120 := fun f => cb_le f 120
    rcases hw with rfl | rfl
    · (first | refine ⟨fun _ => ?_, fun n_ => absurd (show nI 0 = 0 from rfl) n_⟩ | refine ⟨fun n_ => absurd (show nI 0 = 0 from rfl) n_, fun _ => ?_⟩ | refine ⟨fun y_ => absurd y_ (show nI 0 = 0 from rfl), fun _ => ?_⟩ | refine ⟨fun _ => ?_, fun y_ => absurd y_ (show nI 0 = 0 from rfl)⟩)
      refine c_countBit hs rfl rfl (.inl rfl) (by omega) (by omega : 119 < 120) ⟨_, rfl, hs, ?_⟩
      have ec : cb (fun m => bt (ah_i h 55 m) k) (119 + 1) = cb (fun m => litM A (nd0 A) m k) 120 := cb_ext (fun x hx => (chR_l r hx hk2 h10).1)
      rw [ec, nI_1, nI_add]
      have sN : sk (litM A (nd0 A)) 120 (k + 1) = sk (litM A (nd0 A)) 120 k + cb (fun m => litM A (nd0 A) m k) 120 := rfl
      have cl := c1 (fun m => litM A (nd0 A) m k)
      have mono : ∀ d, sk (litM A (nd0 A)) 120 (k + 1) ≤ sk (litM A (nd0 A)) 120 (k + 1 + d) := by
        intro d
        induction d with
        | zero => exact Nat.le_refl _
        | succ d id =>
          have : sk (litM A (nd0 A)) 120 (k + 1 + (d + 1)) = sk (litM A (nd0 A)) 120 (k + 1 + d) + cb (fun m => litM A (nd0 A) m (k + 1 + d)) 120 := rfl
          omega
      have m2 := mono (hi - (k + 1))
      rw [show k + 1 + (hi - (k + 1)) = hi by omega] at m2
      rw [if_pos rfl, if_pos rfl] at le
      refine ih (k + 1) _ (by omega) (by omega) (fun v ev => hq v ?_) (by rw [if_pos rfl, if_pos rfl]; exact m2)
      rw [if_pos rfl, if_pos rfl] at ev ⊢
      omega
    · (first | refine ⟨fun _ => ?_, fun n_ => absurd (show ¬ nI 1 = 0 by decide) n_⟩ | refine ⟨fun n_ => absurd (show ¬ nI 1 = 0 by decide) n_, fun _ => ?_⟩ | refine ⟨fun y_ => absurd y_ (show ¬ nI 1 = 0 by decide), fun _ => ?_⟩ | refine ⟨fun _ => ?_, fun y_ => absurd y_ (show ¬ nI 1 = 0 by decide)⟩)
      refine c_countBit hs rfl rfl (.inr rfl) (by omega) (by omega : 119 < 120) ⟨_, rfl, hs, ?_⟩
      have ec : cb (fun m => bt (ah_i h 56 m) k) (119 + 1) = cb (fun m => outM A (nd0 A) m k) 120 := cb_ext (fun x hx => (chR_l r hx hk2 h10).2)
      rw [ec, nI_1, nI_add]
      have sN : sk (outM A (nd0 A)) 120 (k + 1) = sk (outM A (nd0 A)) 120 k + cb (fun m => outM A (nd0 A) m k) 120 := rfl
      have cl := c1 (fun m => outM A (nd0 A) m k)
      have mono : ∀ d, sk (outM A (nd0 A)) 120 (k + 1) ≤ sk (outM A (nd0 A)) 120 (k + 1 + d) := by
        intro d
        induction d with
        | zero => exact Nat.le_refl _
        | succ d id =>
          have : sk (outM A (nd0 A)) 120 (k + 1 + (d + 1)) = sk (outM A (nd0 A)) 120 (k + 1 + d) + cb (fun m => outM A (nd0 A) m (k + 1 + d)) 120 := rfl
          omega
      have m2 := mono (hi - (k + 1))
      rw [show k + 1 + (hi - (k + 1)) = hi by omega] at m2
      rw [if_neg (by decide), if_neg (by decide)] at le
      refine ih (k + 1) _ (by omega) (by omega) (fun v ev => hq v ?_) (by rw [if_neg (by decide), if_neg (by decide)]; exact m2)
      rw [if_neg (by decide), if_neg (by decide)] at ev ⊢
      omega
theorem m_nightL {Q : Option Value → ah_T → Prop} (hs : Sh h) (h10 : A 246 ≤ 10) (e41 : ah_i h 82 41 = nI (A 246)) (nt : mNt A (nd0 A) 120 h) {a : Int32} {w : Nat} {fl : Nat → Bool} (hw : w < 3) (hf : (a = -1 ∧ ∀ k, k < A 246 → fl k = true) ∨ (¬ a = -1 ∧ ∀ k, k < A 246 → (nI k = a ↔ fl k = true)))
    (hq : Q (some (.int (if w = 0 then nI (ct (fun m k => litM A (nd0 A) m k && fl k) (A 246) 120) else if w = 1 then nI (ct (fun m k => outM A (nd0 A) m k && fl k) (A 246) 120) else nO (fstM (fun m k => outM A (nd0 A) m k && fl k) (A 246) 120)))) h) : Wp mX12_night Q 0 0 39 [some (.ref 82), some (.int a), some (.int (nI w)), some (.int 0), some (.int 0), some (.int (-1)), some (.int 0), none] [] h := by
  obtain ⟨lt, elt⟩ : ∃ lt, lt = fun m k => litM A (nd0 A) m k && fl k := ⟨_, rfl⟩
  obtain ⟨ou, eou⟩ : ∃ ou, ou = fun m k => outM A (nd0 A) m k && fl k := ⟨_, rfl⟩
  rw [← elt, ← eou] at hq
  have eltk : ∀ m k, lt m k = (litM A (nd0 A) m k && fl k) := fun m k => by rw [elt]
  have eouk : ∀ m k, ou m k = (outM A (nd0 A) m k && fl k) := fun m k => by rw [eou]
  let fp : Nat → Nat → Nat := fun m k => if fstM ou (A 246) m = 0 ∧ 0 < cb (ou m) k then m + 1 else fstM ou (A 246) m
  have fpS : ∀ m k, cb (ou m) (k + 1) = cb (ou m) k + (if ou m k = true then 1 else 0) := fun _ _ => rfl
  have fp120 : ∀ m k, m < 120 → fp m k ≤ 120 := fun m k hm => by
    show (if fstM ou (A 246) m = 0 ∧ 0 < cb (ou m) k then m + 1 else fstM ou (A 246) m) ≤ 120
    have := fstM_le ou (A 246) m
    split <;> omega
  have lS : ∀ m k, cb (lt m) (k + 1) = cb (lt m) k + (if lt m k = true then 1 else 0) := fun _ _ => rfl
  have l39 : ∀ (q m : Nat), m + q = 120 → Wp mX12_night Q 0 0 39 [some (.ref 82), some (.int a), some (.int (nI w)), some (.int (nI (ct lt (A 246) m))), some (.int (nI (ct ou (A 246) m))), some (.int (nO (fstM ou (A 246) m))), some (.int (nI m)), none] [] h := by
    intro q
    induction q with
    | zero =>
      intro m hm
      have e9 : m = 120 := by omega
      subst e9
      refine T_X12_night_39 hs _ _ _ _ _ _ ?_
      (first | refine ⟨fun _ => ?_, fun n_ => absurd (show 120 ≤ nI 120 from nI_le (a := 120) (by omega) (by omega)) n_⟩ | refine ⟨fun n_ => absurd (show 120 ≤ nI 120 from nI_le (a := 120) (by omega) (by omega)) n_, fun _ => ?_⟩ | refine ⟨fun y_ => absurd y_ (show 120 ≤ nI 120 from nI_le (a := 120) (by omega) (by omega)), fun _ => ?_⟩ | refine ⟨fun _ => ?_, fun y_ => absurd y_ (show 120 ≤ nI 120 from nI_le (a := 120) (by omega) (by omega))⟩)
      rcases (show w = 0 ∨ w = 1 ∨ w = 2 by omega) with rfl | rfl | rfl
      · (first | refine ⟨fun _ => ?_, fun n_ => absurd (show nI 0 = 0 from rfl) n_⟩ | refine ⟨fun n_ => absurd (show nI 0 = 0 from rfl) n_, fun _ => ?_⟩ | refine ⟨fun y_ => absurd y_ (show nI 0 = 0 from rfl), fun _ => ?_⟩ | refine ⟨fun _ => ?_, fun y_ => absurd y_ (show nI 0 = 0 from rfl)⟩)
        exact hq
      · (first | refine ⟨fun _ => ?_, fun n_ => absurd (show ¬ nI 1 = 0 by decide) n_⟩ | refine ⟨fun n_ => absurd (show ¬ nI 1 = 0 by decide) n_, fun _ => ?_⟩ | refine ⟨fun y_ => absurd y_ (show ¬ nI 1 = 0 by decide), fun _ => ?_⟩ | refine ⟨fun _ => ?_, fun y_ => absurd y_ (show ¬ nI 1 = 0 by decide)⟩)
        (first | refine ⟨fun _ => ?_, fun n_ => absurd (show nI 1 = 1 from rfl) n_⟩ | refine ⟨fun n_ => absurd (show nI 1 = 1 from rfl) n_, fun _ => ?_⟩ | refine ⟨fun y_ => absurd y_ (show nI 1 = 1 from rfl), fun _ => ?_⟩ | refine ⟨fun _ => ?_, fun y_ => absurd y_ (show nI 1 = 1 from rfl)⟩)
        exact hq
      · (first | refine ⟨fun _ => ?_, fun n_ => absurd (show ¬ nI 2 = 0 by decide) n_⟩ | refine ⟨fun n_ => absurd (show ¬ nI 2 = 0 by decide) n_, fun _ => ?_⟩ | refine ⟨fun y_ => absurd y_ (show ¬ nI 2 = 0 by decide), fun _ => ?_⟩ | refine ⟨fun _ => ?_, fun y_ => absurd y_ (show ¬ nI 2 = 0 by decide)⟩)
        (first | refine ⟨fun _ => ?_, fun n_ => absurd (show ¬ nI 2 = 1 by decide) n_⟩ | refine ⟨fun n_ => absurd (show ¬ nI 2 = 1 by decide) n_, fun _ => ?_⟩ | refine ⟨fun y_ => absurd y_ (show ¬ nI 2 = 1 by decide), fun _ => ?_⟩ | refine ⟨fun _ => ?_, fun y_ => absurd y_ (show ¬ nI 2 = 1 by decide)⟩)
        exact hq
    | succ q ih =>
      intro m hm
      have hm2 : m < 120 := by omega
      refine T_X12_night_39 hs _ _ _ _ _ _ ?_
      (first | refine ⟨fun _ => ?_, fun n_ => absurd (show ¬ 120 ≤ nI m from nI_ge (b := 120) (by omega) (by omega)) n_⟩ | refine ⟨fun n_ => absurd (show ¬ 120 ≤ nI m from nI_ge (b := 120) (by omega) (by omega)) n_, fun _ => ?_⟩ | refine ⟨fun y_ => absurd y_ (show ¬ 120 ≤ nI m from nI_ge (b := 120) (by omega) (by omega)), fun _ => ?_⟩ | refine ⟨fun _ => ?_, fun y_ => absurd y_ (show ¬ 120 ≤ nI m from nI_ge (b := 120) (by omega) (by omega))⟩)
      have l49 : ∀ (q2 k : Nat), k + q2 = A 246 → Wp mX12_night Q 0 0 49 [some (.ref 82), some (.int a), some (.int (nI w)), some (.int (nI (ct lt (A 246) m + cb (lt m) k))), some (.int (nI (ct ou (A 246) m + cb (ou m) k))), some (.int (nO (fp m k))), some (.int (nI m)), some (.int (nI k))] [] h := by
        intro q2
        induction q2 with
        | zero =>
          intro k hk
          have e9 : k = A 246 := by omega
          subst e9
          refine T_X12_night_49 hs _ _ _ _ _ _ _ ?_
          rw [e41]
          (first | refine ⟨fun _ => ?_, fun n_ => absurd (show nI (A 246) ≤ nI (A 246) from nI_le (Nat.le_refl _) (by omega)) n_⟩ | refine ⟨fun n_ => absurd (show nI (A 246) ≤ nI (A 246) from nI_le (Nat.le_refl _) (by omega)) n_, fun _ => ?_⟩ | refine ⟨fun y_ => absurd y_ (show nI (A 246) ≤ nI (A 246) from nI_le (Nat.le_refl _) (by omega)), fun _ => ?_⟩ | refine ⟨fun _ => ?_, fun y_ => absurd y_ (show nI (A 246) ≤ nI (A 246) from nI_le (Nat.le_refl _) (by omega))⟩)
          rw [nI_1]
          exact ih (m + 1) (by omega)
        | succ q2 ih2 =>
          intro k hk
          have hk2 : k < A 246 := by omega
          obtain ⟨r1, r2, r3⟩ := nt m hm2 k hk2
          have d10 : (10 : Int32) * nI m + nI k = nI (10 * m + k) := by rw [n_10, nI_mul, nI_add]
          have vq : vp_in (nI (10 * m + k)) 1200 := (vp_nI (by omega)).mpr (by omega)
          have fm := fp120 m k hm2
          -- the next
          have nx : ∀ (x3 x4 x5 : Int32) (p o : Bool), p = lt m k → o = ou m k → x3 = nI (ct lt (A 246) m + cb (lt m) k) + bI p → x4 = nI (ct ou (A 246) m + cb (ou m) k) + bI o → (x5 = if o = true ∧ nO (fp m k) = -1 then nI m else nO (fp m k)) → Wp mX12_night Q 0 0 49 [some (.ref 82), some (.int a), some (.int (nI w)), some (.int x3), some (.int x4), some (.int x5), some (.int (nI m)), some (.int (nI (k + 1)))] [] h := by
            rintro x3 x4 x5 p o ep eo rfl rfl rfl
            have a3 : nI (ct lt (A 246) m + cb (lt m) k) + bI p = nI (ct lt (A 246) m + cb (lt m) (k + 1)) := by
              rw [lS, ← Nat.add_assoc, ← ep]
              cases p
              · exact Int32.add_zero _
              · exact nI_1 _
            have a4 : nI (ct ou (A 246) m + cb (ou m) k) + bI o = nI (ct ou (A 246) m + cb (ou m) (k + 1)) := by
              rw [fpS, ← Nat.add_assoc, ← eo]
              cases o
              · exact Int32.add_zero _
              · exact nI_1 _
            have a5 : (if o = true ∧ nO (fp m k) = -1 then nI m else nO (fp m k)) = nO (fp m (k + 1)) := by
              have z0 : nO (fp m k) = -1 ↔ fp m k = 0 := by
                constructor
                · intro y
                  rcases Nat.eq_zero_or_pos (fp m k) with u | u
                  · exact u
                  · rw [show fp m k = (fp m k - 1) + 1 by omega, nO_s] at y
                    exact absurd y (nI_m1 (by omega))
                · intro y; rw [y]; rfl
              simp only [z0]
              show _ = nO (if fstM ou (A 246) m = 0 ∧ 0 < cb (ou m) (k + 1) then m + 1 else fstM ou (A 246) m)
              rw [fpS, ← eo]
              exact fo_step
            rw [a3, a4, a5]
            exact ih2 (k + 1) (by omega)
          refine T_X12_night_49 hs _ _ _ _ _ _ _ ?_
          rw [e41]
          (first | refine ⟨fun _ => ?_, fun n_ => absurd (show ¬ nI (A 246) ≤ nI k from nI_ge (by omega) (by omega)) n_⟩ | refine ⟨fun n_ => absurd (show ¬ nI (A 246) ≤ nI k from nI_ge (by omega) (by omega)) n_, fun _ => ?_⟩ | refine ⟨fun y_ => absurd y_ (show ¬ nI (A 246) ≤ nI k from nI_ge (by omega) (by omega)), fun _ => ?_⟩ | refine ⟨fun _ => ?_, fun y_ => absurd y_ (show ¬ nI (A 246) ≤ nI k from nI_ge (by omega) (by omega))⟩)
          rw [d10, show nI k + 1 = nI (k + 1) from nI_1 k, nI_clamp (show 10 * m + k < 2 ^ 31 by omega), r1, r2, sh_n hs 109 1200 (by decide) (by decide) rfl, sh_n hs 111 1200 (by decide) (by decide) rfl, bI_0, bI_0]
          have body : fl k = true → (vp_in (nI (10 * m + k)) 1200) ∧ (((litM A (nd0 A) m k) = false → (vp_in (nI (10 * m + k)) 1200) ∧ ((¬ (outM A (nd0 A) m k) = false → ((¬ nO (fp m k) = (-1) → Wp mX12_night Q 0 0 49 [some (.ref 82), some (.int a), some (.int (nI w)), some (.int (nI (ct lt (A 246) m + cb (lt m) k) + 0)), some (.int (nI (ct ou (A 246) m + cb (ou m) k) + 1)), some (.int (nO (fp m k))), some (.int (nI m)), some (.int (nI (k + 1)))] [] h) ∧ (nO (fp m k) = (-1) → Wp mX12_night Q 0 0 49 [some (.ref 82), some (.int a), some (.int (nI w)), some (.int (nI (ct lt (A 246) m + cb (lt m) k) + 0)), some (.int (nI (ct ou (A 246) m + cb (ou m) k) + 1)), some (.int (nI m)), some (.int (nI m)), some (.int (nI (k + 1)))] [] h))) ∧ ((outM A (nd0 A) m k) = false → Wp mX12_night Q 0 0 49 [some (.ref 82), some (.int a), some (.int (nI w)), some (.int (nI (ct lt (A 246) m + cb (lt m) k) + 0)), some (.int (nI (ct ou (A 246) m + cb (ou m) k))), some (.int (nO (fp m k))), some (.int (nI m)), some (.int (nI (k + 1)))] [] h))) ∧ (¬ (litM A (nd0 A) m k) = false → (vp_in (nI (10 * m + k)) 1200) ∧ ((¬ (outM A (nd0 A) m k) = false → ((¬ nO (fp m k) = (-1) → Wp mX12_night Q 0 0 49 [some (.ref 82), some (.int a), some (.int (nI w)), some (.int (nI (ct lt (A 246) m + cb (lt m) k) + 1)), some (.int (nI (ct ou (A 246) m + cb (ou m) k) + 1)), some (.int (nO (fp m k))), some (.int (nI m)), some (.int (nI (k + 1)))] [] h) ∧ (nO (fp m k) = (-1) → Wp mX12_night Q 0 0 49 [some (.ref 82), some (.int a), some (.int (nI w)), some (.int (nI (ct lt (A 246) m + cb (lt m) k) + 1)), some (.int (nI (ct ou (A 246) m + cb (ou m) k) + 1)), some (.int (nI m)), some (.int (nI m)), some (.int (nI (k + 1)))] [] h))) ∧ ((outM A (nd0 A) m k) = false → Wp mX12_night Q 0 0 49 [some (.ref 82), some (.int a), some (.int (nI w)), some (.int (nI (ct lt (A 246) m + cb (lt m) k) + 1)), some (.int (nI (ct ou (A 246) m + cb (ou m) k))), some (.int (nO (fp m k))), some (.int (nI m)), some (.int (nI (k + 1)))] [] h)))) := by
            intro fk
            have e1 := eltk m k
            have e2 := eouk m k
            rw [fk, Bool.and_true] at e1 e2
            have ad : ∀ x : Int32, x = x + bI false := fun x => (Int32.add_zero x).symm
            refine ⟨vq, fun zl => ⟨vq, fun zo => ⟨fun zf => ?_, fun zf => ?_⟩, fun zo => ?_⟩, fun zl => ⟨vq, fun zo => ⟨fun zf => ?_, fun zf => ?_⟩, fun zo => ?_⟩⟩
            · have zo' : outM A (nd0 A) m k = true := by cases e : outM A (nd0 A) m k; exact absurd e zo; rfl
              exact nx _ _ _ false true (by rw [e1, zl]) (by rw [e2, zo']) rfl rfl (if_neg (fun y => zf y.2)).symm
            · have zo' : outM A (nd0 A) m k = true := by cases e : outM A (nd0 A) m k; exact absurd e zo; rfl
              exact nx _ _ _ false true (by rw [e1, zl]) (by rw [e2, zo']) rfl rfl (if_pos ⟨rfl, zf⟩).symm
            · exact nx _ _ _ false false (by rw [e1, zl]) (by rw [e2, zo]) rfl (ad _) (if_neg (fun y => absurd y.1 (by decide))).symm
            · have zo' : outM A (nd0 A) m k = true := by cases e : outM A (nd0 A) m k; exact absurd e zo; rfl
              have zl' : litM A (nd0 A) m k = true := by cases e : litM A (nd0 A) m k; exact absurd e zl; rfl
              exact nx _ _ _ true true (by rw [e1, zl']) (by rw [e2, zo']) rfl rfl (if_neg (fun y => zf y.2)).symm
            · have zo' : outM A (nd0 A) m k = true := by cases e : outM A (nd0 A) m k; exact absurd e zo; rfl
              have zl' : litM A (nd0 A) m k = true := by cases e : litM A (nd0 A) m k; exact absurd e zl; rfl
              exact nx _ _ _ true true (by rw [e1, zl']) (by rw [e2, zo']) rfl rfl (if_pos ⟨rfl, zf⟩).symm
            · have zl' : litM A (nd0 A) m k = true := by cases e : litM A (nd0 A) m k; exact absurd e zl; rfl
              exact nx _ _ _ true false (by rw [e1, zl']) (by rw [e2, zo]) rfl (ad _) (if_neg (fun y => absurd y.1 (by decide))).symm
          rcases hf with ⟨ha, hf⟩ | ⟨ha, hf⟩
          · (first | refine ⟨fun _ => ?_, fun n_ => absurd (ha) n_⟩ | refine ⟨fun n_ => absurd (ha) n_, fun _ => ?_⟩ | refine ⟨fun y_ => absurd y_ (ha), fun _ => ?_⟩ | refine ⟨fun _ => ?_, fun y_ => absurd y_ (ha)⟩)
            exact body (hf k hk2)
          · (first | refine ⟨fun _ => ?_, fun n_ => absurd (ha) n_⟩ | refine ⟨fun n_ => absurd (ha) n_, fun _ => ?_⟩ | refine ⟨fun y_ => absurd y_ (ha), fun _ => ?_⟩ | refine ⟨fun _ => ?_, fun y_ => absurd y_ (ha)⟩)
            refine ⟨fun z => body ((hf k hk2).mp z), fun z => ?_⟩
            have ff : fl k = false := by
              cases e : fl k
              · rfl
              · exact absurd ((hf k hk2).mpr e) z
            have e1 := eltk m k
            have e2 := eouk m k
            rw [ff, Bool.and_false] at e1 e2
            exact nx _ _ _ false false e1.symm e2.symm (Int32.add_zero _).symm (Int32.add_zero _).symm (if_neg (fun y => absurd y.1 (by decide))).symm
      have := l49 (A 246) 0 (by omega)
      have f0 : fp m 0 = fstM ou (A 246) m := if_neg (fun y => absurd y.2 (by show ¬ 0 < 0; omega))
      rw [f0] at this
      exact this
  exact l39 120 0 (by omega)
end NI
