/-! ===== tokens out of bytes: what they are; the model splits ===== -/
/-- a byte: 0 a blank, 1 a sign, 2 a digit, 3 a letter -/
def kd (b : Nat) : Nat := if b = 32 then 0 else if 48 ≤ b ∧ b ≤ 57 then 2 else if 97 ≤ b ∧ b ≤ 122 then 3 else 1
def rn (D : Nat → Nat) (d c : Nat) : Nat → Nat → Nat
  | 0, j => j
  | f + 1, j => if j < d ∧ kd (D j) = c then rn D d c f (j + 1) else j
def nvl (D : Nat → Nat) : Nat → Nat → Nat → Nat
  | 0, _, v => v
  | f + 1, j, v => nvl D f (j + 1) (if 1000000 < v then v else 10 * v + (D j - 48))
def mW : List (List Nat) := [[115, 104, 117, 110, 115], [114, 101, 97, 99, 104, 101, 115], [100, 114, 105, 110, 107, 115], [105, 102], [111, 114], [97, 110, 100], [110, 111, 116], [108, 97, 109, 112], [107, 105, 110, 100], [111, 116, 104, 101, 114], [110, 101, 97, 114], [108, 97, 116, 101, 114], [109, 105, 110, 117, 116, 101], [119, 105, 110, 100], [109, 111, 111, 100], [108, 97, 109, 112, 115], [115, 119, 105, 116, 99, 104, 101, 115], [108, 97, 115, 116], [100, 111, 110, 101], [114, 117, 110], [108, 105, 103, 104, 116], [115, 110, 117, 102, 102], [97, 116], [101, 97, 99, 104], [116, 105, 109, 101, 115]]
def jn : List (List Nat) → List Nat
  | [] => []
  | u :: r => u ++ 32 :: jn r
def wix : List (List Nat) → List Nat → Nat → Nat
  | [], _, _ => 0
  | u :: r, t, w => if u = t then w else wix r t (w + 1)
def tb (D : Nat → Nat) (k e : Nat) : List Nat := (List.range (e - k)).map (fun i => D (k + i))
def eA (D : Nat → Nat) (d k : Nat) : Nat := if kd (D k) = 1 then k + 1 else rn D d (kd (D k)) d (k + 1)
def tcA (D : Nat → Nat) (k e : Nat) : Nat := if kd (D k) = 3 then wix mW (tb D k e) 1 else if kd (D k) = 2 then 50 else 100 + D k
def vlA (D : Nat → Nat) (k e : Nat) : Nat := if kd (D k) = 2 then nvl D (e - k) k 0 else 0
/-- the tokens from a place on: code, value, place -/
def tks (D : Nat → Nat) (d : Nat) : Nat → Nat → List (Nat × Nat × Nat)
  | 0, _ => []
  | f + 1, k => if d ≤ k then [] else if kd (D k) = 0 then tks D d f (k + 1) else (tcA D k (eA D d k), vlA D k (eA D d k), k) :: tks D d f (eA D d k)
theorem tks_s (D : Nat → Nat) (d f k : Nat) : tks D d (f + 1) k = if d ≤ k then [] else if kd (D k) = 0 then tks D d f (k + 1) else (tcA D k (eA D d k), vlA D k (eA D d k), k) :: tks D d f (eA D d k) := rfl
theorem rn_ge (D : Nat → Nat) (d c : Nat) : ∀ f j, j ≤ rn D d c f j ∧ (j ≤ d → rn D d c f j ≤ d)
  | 0, j => ⟨Nat.le_refl _, fun h => h⟩
  | f + 1, j => by
    unfold rn
    by_cases c1 : j < d ∧ kd (D j) = c
    · rw [if_pos c1]
      have := rn_ge D d c f (j + 1)
      exact ⟨by omega, fun _ => this.2 c1.1⟩
    · rw [if_neg c1]; exact ⟨Nat.le_refl _, fun h => h⟩
theorem eA_in {D : Nat → Nat} {d k : Nat} (h : k < d) : k < eA D d k ∧ eA D d k ≤ d := by
  unfold eA
  split
  · omega
  · have := rn_ge D d (kd (D k)) d (k + 1)
    exact ⟨by omega, this.2 h⟩
theorem tks_f (D : Nat → Nat) (d : Nat) : ∀ f g k, d - k ≤ f → d - k ≤ g → tks D d f k = tks D d g k
  | 0, 0, k, _, _ => rfl
  | 0, g + 1, k, h1, _ => by unfold tks; rw [if_pos (by omega)]
  | f + 1, 0, k, _, h2 => by unfold tks; rw [if_pos (by omega)]
  | f + 1, g + 1, k, h1, h2 => by
    unfold tks
    by_cases c : d ≤ k
    · rw [if_pos c, if_pos c]
    · have := eA_in (D := D) (d := d) (k := k) (by omega)
      rw [if_neg c, if_neg c, tks_f D d f g (k + 1) (by omega) (by omega), tks_f D d f g (eA D d k) (by omega) (by omega)]
theorem tks_len (D : Nat → Nat) (d : Nat) : ∀ f k, (tks D d f k).length ≤ d - k
  | 0, k => Nat.zero_le _
  | f + 1, k => by
    unfold tks
    by_cases c : d ≤ k
    · rw [if_pos c]; exact Nat.zero_le _
    · rw [if_neg c]
      by_cases c2 : kd (D k) = 0
      · rw [if_pos c2]
        have := tks_len D d f (k + 1)
        omega
      · rw [if_neg c2]
        have := eA_in (D := D) (d := d) (k := k) (by omega)
        have := tks_len D d f (eA D d k)
        show (tks D d f (eA D d k)).length + 1 ≤ _
        omega
theorem wix_le : ∀ (r : List (List Nat)) (t : List Nat) (w : Nat), wix r t w ≤ w + r.length - 1
  | [], t, w => Nat.zero_le _
  | u :: r, t, w => by
    unfold wix
    split
    · simp
    · have := wix_le r t (w + 1)
      simp only [List.length_cons]
      omega
theorem nvl_le (D : Nat → Nat) : ∀ f j v, v ≤ 10000009 → (∀ i, i < f → kd (D (j + i)) = 2) → nvl D f j v ≤ 10000009
  | 0, j, v, h, _ => h
  | f + 1, j, v, h, hD => by
    unfold nvl
    refine nvl_le D f (j + 1) _ ?_ (fun i hi => by rw [show j + 1 + i = j + (i + 1) by omega]; exact hD (i + 1) (by omega))
    have := hD 0 (by omega)
    rw [Nat.add_zero] at this
    unfold kd at this
    split
    · exact h
    · have : D j ≤ 57 := by
        split at this
        · omega
        · split at this
          · omega
          · split at this <;> omega
      omega
theorem rn_all (D : Nat → Nat) (d c : Nat) : ∀ f j i, j ≤ i → i < rn D d c f j → kd (D i) = c
  | 0, j, i, h1, h2 => by unfold rn at h2; omega
  | f + 1, j, i, h1, h2 => by
    unfold rn at h2
    by_cases c1 : j < d ∧ kd (D j) = c
    · rw [if_pos c1] at h2
      by_cases e : i = j
      · subst e; exact c1.2
      · exact rn_all D d c f (j + 1) i (by omega) h2
    · rw [if_neg c1] at h2; omega
theorem kd_le (b : Nat) : kd b ≤ 3 := by unfold kd; split; omega; split; omega; split <;> omega
/-- what a token can be -/
theorem tcA_le {D : Nat → Nat} {d k : Nat} (hk : k < d) (hD : ∀ j, j < d → D j < 256) : (tcA D k (eA D d k) = 50 ∨ tcA D k (eA D d k) ≤ 25 ∨ (100 ≤ tcA D k (eA D d k) ∧ tcA D k (eA D d k) < 356)) ∧ vlA D k (eA D d k) ≤ 10000009 := by
  refine ⟨?_, ?_⟩
  · unfold tcA
    split
    · have := wix_le mW (tb D k (eA D d k)) 1
      refine .inr (.inl ?_)
      have e : mW.length = 25 := rfl
      omega
    · split
      · exact .inl rfl
      · have := hD k hk
        exact .inr (.inr ⟨by omega, by omega⟩)
  · unfold vlA
    by_cases c : kd (D k) = 2
    · rw [if_pos c]
      refine nvl_le D _ k 0 (by omega) (fun i hi => ?_)
      have e : eA D d k = rn D d 2 d (k + 1) := by unfold eA; rw [if_neg (by omega), c]
      by_cases z : i = 0
      · subst z; exact c
      · refine rn_all D d 2 d (k + 1) (k + i) (by omega) ?_
        rw [e] at hi
        omega
    · rw [if_neg c]; omega
theorem tb_eq {D : Nat → Nat} {k e : Nat} {u : List Nat} : u = tb D k e ↔ (u.length = e - k ∧ ∀ i, i < e - k → u.getD i 0 = D (k + i)) := by
  constructor
  · rintro rfl
    refine ⟨by simp [tb], fun i hi => ?_⟩
    simp [tb, List.getD, hi]
  · rintro ⟨h1, h2⟩
    apply List.ext_getElem
    · simp [tb, h1]
    · intro i g1 g2
      have := h2 i (by omega)
      simp [tb, List.getD, g1] at this ⊢
      exact this
/-! ## the model's word -/
theorem sB_w {u b : Nat} (hu : u < 128) (hb : b < 256) : nI u = sB b ↔ u = b := by
  unfold sB
  by_cases c : b < 128
  · rw [if_pos c, nI_eq (by omega) (by omega)]
  · rw [if_neg c]
    constructor
    · intro q
      have : nI b - 256 = nI u := q.symm
      exfalso
      have e : nI u + nI 256 = nI b := by rw [← this]; show nI b - nI 256 + nI 256 = nI b; grind
      rw [nI_add, nI_eq (by omega) (by omega)] at e
      omega
    · intro q; omega
theorem jn_at (p l : List Nat) (j : Nat) : (p ++ l).getD (p.length + j) 0 = l.getD j 0 := by
  simp [List.getD, List.getElem?_append_right]
theorem un_at (u r : List Nat) {j : Nat} (hj : j < u.length) : (u ++ 32 :: r).getD j 0 = u.getD j 0 := by
  simp [List.getD, List.getElem?_append_left hj]
theorem un_32 (u r : List Nat) : (u ++ 32 :: r).getD u.length 0 = 32 := by
  simp [List.getD]
theorem mW_ok : ∀ u ∈ mW, u.length ≤ 8 ∧ ∀ i, i < u.length → u.getD i 0 ≠ 32 ∧ u.getD i 0 < 128 := by decide +kernel
def mBy : List Nat := jn mW
theorem m_wordOf {Q : Option Value → ah_T → Prop} {h : ah_T} (hs : Sh h) {D : Nat → Nat} {d k e : Nat} (hk : k < e) (he : e ≤ d) (hd : d ≤ 400) (hD : ∀ j, j < d → D j < 256 ∧ ah_i h 88 j = sB (D j)) (n87 : ah_n h 87 = mBy.length) (hW : ∀ j, j < mBy.length → ah_i h 87 j = nI (mBy.getD j 0)) (hq : Q (some (.int (nI (wix mW (tb D k e) 1)))) h) : Mt mX12_wordOf [.ref 82, .int (nI k), .int (nI e)] h Q := by
  have n88 : ah_n h 88 = 400 := sh_n hs 88 400 (by decide) (by decide) rfl
  have L : mBy.length = 134 := by decide +kernel
  refine T_X12_wordOf hs _ _ ?_
  have outer : ∀ (r : List (List Nat)) (p : List Nat) (w : Nat), mBy = p ++ jn r → (∀ u ∈ r, u.length ≤ 8 ∧ ∀ i, i < u.length → u.getD i 0 ≠ 32 ∧ u.getD i 0 < 128) → w + r.length = 26 → Q (some (.int (nI (wix r (tb D k e) w)))) h → Wp mX12_wordOf Q 0 0 5 [some (.ref 82), some (.int (nI k)), some (.int (nI e)), some (.int (nI w)), some (.int (nI p.length)), none, none, none] [] h := by
    intro r
    induction r with
    | nil =>
      intro p w hp _ hw q
      refine T_X12_wordOf_5 hs _ _ _ _ ?_
      have : p.length = 134 := by rw [← L, hp]; simp [jn]
      rw [n87, nI_ofNat]
      (first | refine ⟨fun _ => ?_, fun n_ => absurd (show nI mBy.length ≤ nI p.length from nI_le (by omega) (by omega)) n_⟩ | refine ⟨fun n_ => absurd (show nI mBy.length ≤ nI p.length from nI_le (by omega) (by omega)) n_, fun _ => ?_⟩ | refine ⟨fun y_ => absurd y_ (show nI mBy.length ≤ nI p.length from nI_le (by omega) (by omega)), fun _ => ?_⟩ | refine ⟨fun _ => ?_, fun y_ => absurd y_ (show nI mBy.length ≤ nI p.length from nI_le (by omega) (by omega))⟩)
      exact q
    | cons u r ih =>
      intro p w hp hu hw q
      obtain ⟨hu1, hu2⟩ := hu u List.mem_cons_self
      have hj : jn (u :: r) = u ++ 32 :: jn r := rfl
      have hlen : p.length + (u.length + 1) + (jn r).length = 134 := by rw [← L, hp, hj]; simp; omega
      have at1 : ∀ j, j < u.length → ah_i h 87 (p.length + j) = nI (u.getD j 0) := fun j hj2 => by
        rw [hW _ (by omega), hp, jn_at, hj, un_at u _ hj2]
      have at2 : ah_i h 87 (p.length + u.length) = nI 32 := by
        rw [hW _ (by omega), hp, jn_at, hj, un_32]
      have next : ¬ u = tb D k e → Wp mX12_wordOf Q 0 0 5 [some (.ref 82), some (.int (nI k)), some (.int (nI e)), some (.int (nI w + 1)), some (.int (nI p.length + (nI u.length + 1))), none, none, none] [] h := by
        intro z
        have f1 : nI p.length + (nI u.length + 1) = nI (p ++ (u ++ [32])).length := by
          rw [nI_1, nI_add]; simp
        rw [f1, nI_1]
        refine ih (p ++ (u ++ [32])) (w + 1) (by rw [hp, hj]; simp) (fun v hv => hu v (List.mem_cons_of_mem _ hv)) (by simp at hw; omega) ?_
        unfold wix at q
        rw [if_neg z] at q
        exact q
      have done : u = tb D k e → Q (some (.int (nI w))) h := by
        intro z
        unfold wix at q
        rw [if_pos z] at q
        exact q
      -- comparing
      have cmp : ∀ (f i : Nat) (sm : Bool), i + f = u.length → (sm = true ↔ (u.length = e - k ∧ ∀ j, j < i → u.getD j 0 = D (k + j))) → Wp mX12_wordOf Q 0 0 57 [some (.ref 82), some (.int (nI k)), some (.int (nI e)), some (.int (nI w)), some (.int (nI p.length)), some (.int (nI u.length)), some (.int (bI sm)), some (.int (nI i))] [] h := by
        intro f
        induction f with
        | zero =>
          intro i sm hi hsm
          refine T_X12_wordOf_57 hs _ _ _ _ _ _ _ ?_
          (first | refine ⟨fun _ => ?_, fun n_ => absurd (show nI u.length ≤ nI i from nI_le (by omega) (by omega)) n_⟩ | refine ⟨fun n_ => absurd (show nI u.length ≤ nI i from nI_le (by omega) (by omega)) n_, fun _ => ?_⟩ | refine ⟨fun y_ => absurd y_ (show nI u.length ≤ nI i from nI_le (by omega) (by omega)), fun _ => ?_⟩ | refine ⟨fun _ => ?_, fun y_ => absurd y_ (show nI u.length ≤ nI i from nI_le (by omega) (by omega))⟩)
          cases sm
          · (first | refine ⟨fun _ => ?_, fun n_ => absurd (show bI false = 0 by rfl) n_⟩ | refine ⟨fun n_ => absurd (show bI false = 0 by rfl) n_, fun _ => ?_⟩ | refine ⟨fun y_ => absurd y_ (show bI false = 0 by rfl), fun _ => ?_⟩ | refine ⟨fun _ => ?_, fun y_ => absurd y_ (show bI false = 0 by rfl)⟩)
            refine next (fun z => ?_)
            have := hsm.mpr ⟨(tb_eq.mp z).1, fun j hj => (tb_eq.mp z).2 j (by have := (tb_eq.mp z).1; omega)⟩
            exact absurd this (by decide)
          · (first | refine ⟨fun _ => ?_, fun n_ => absurd (show ¬ bI true = 0 by decide) n_⟩ | refine ⟨fun n_ => absurd (show ¬ bI true = 0 by decide) n_, fun _ => ?_⟩ | refine ⟨fun y_ => absurd y_ (show ¬ bI true = 0 by decide), fun _ => ?_⟩ | refine ⟨fun _ => ?_, fun y_ => absurd y_ (show ¬ bI true = 0 by decide)⟩)
            have := hsm.mp rfl
            exact done (tb_eq.mpr ⟨this.1, fun j hj => this.2 j (by omega)⟩)
        | succ f ihf =>
          intro i sm hi hsm
          refine T_X12_wordOf_57 hs _ _ _ _ _ _ _ ?_
          (first | refine ⟨fun _ => ?_, fun n_ => absurd (show ¬ nI u.length ≤ nI i from nI_ge (by omega) (by omega)) n_⟩ | refine ⟨fun n_ => absurd (show ¬ nI u.length ≤ nI i from nI_ge (by omega) (by omega)) n_, fun _ => ?_⟩ | refine ⟨fun y_ => absurd y_ (show ¬ nI u.length ≤ nI i from nI_ge (by omega) (by omega)), fun _ => ?_⟩ | refine ⟨fun _ => ?_, fun y_ => absurd y_ (show ¬ nI u.length ≤ nI i from nI_ge (by omega) (by omega))⟩)
          cases sm
          · (first | refine ⟨fun _ => ?_, fun n_ => absurd (show bI false = 0 by rfl) n_⟩ | refine ⟨fun n_ => absurd (show bI false = 0 by rfl) n_, fun _ => ?_⟩ | refine ⟨fun y_ => absurd y_ (show bI false = 0 by rfl), fun _ => ?_⟩ | refine ⟨fun _ => ?_, fun y_ => absurd y_ (show bI false = 0 by rfl)⟩)
            (first | refine ⟨fun _ => ?_, fun n_ => absurd (show bI false = 0 by rfl) n_⟩ | refine ⟨fun n_ => absurd (show bI false = 0 by rfl) n_, fun _ => ?_⟩ | refine ⟨fun y_ => absurd y_ (show bI false = 0 by rfl), fun _ => ?_⟩ | refine ⟨fun _ => ?_, fun y_ => absurd y_ (show bI false = 0 by rfl)⟩)
            refine next (fun z => ?_)
            have := hsm.mpr ⟨(tb_eq.mp z).1, fun j hj => (tb_eq.mp z).2 j (by have := (tb_eq.mp z).1; omega)⟩
            exact absurd this (by decide)
          · (first | refine ⟨fun _ => ?_, fun n_ => absurd (show ¬ bI true = 0 by decide) n_⟩ | refine ⟨fun n_ => absurd (show ¬ bI true = 0 by decide) n_, fun _ => ?_⟩ | refine ⟨fun y_ => absurd y_ (show ¬ bI true = 0 by decide), fun _ => ?_⟩ | refine ⟨fun _ => ?_, fun y_ => absurd y_ (show ¬ bI true = 0 by decide)⟩)
            have hs1 := hsm.mp rfl
            rw [nI_add, nI_add, nI_clamp (by omega), nI_clamp (by omega), at1 i (by omega), (hD (k + i) (by omega)).2, nI_1]
            have hb := sB_w (hu2 i (by omega)).2 (hD (k + i) (by omega)).1
            refine ⟨by rw [n87]; exact (vp_nI (by omega)).mpr (by omega), by rw [n88]; exact (vp_nI (by omega)).mpr (by omega), fun z => ?_, fun z => ?_⟩
            · refine ihf (i + 1) false (by omega) ⟨fun q => absurd q (by decide), fun q => ?_⟩
              exact absurd (hb.mpr (q.2 i (by omega))) z
            · refine ihf (i + 1) true (by omega) ⟨fun _ => ⟨hs1.1, fun j hj => ?_⟩, fun _ => rfl⟩
              rcases Nat.lt_or_ge j i with y | y
              · exact hs1.2 j y
              · have : j = i := by omega
                subst this
                exact hb.mp z
      -- how long the word is
      have len : ∀ (f i : Nat), i + f = u.length → Wp mX12_wordOf Q 0 0 18 [some (.ref 82), some (.int (nI k)), some (.int (nI e)), some (.int (nI w)), some (.int (nI p.length)), some (.int (nI i)), none, none] [] h := by
        intro f
        induction f with
        | zero =>
          intro i hi
          have hi2 : i = u.length := by omega
          subst hi2
          refine T_X12_wordOf_18 hs _ _ _ _ _ ?_
          rw [nI_add, nI_clamp (by omega), at2, nI_sub (by omega)]
          refine ⟨by rw [n87]; exact (vp_nI (by omega)).mpr (by omega), fun _ => ⟨fun z => ?_, fun z => ?_⟩, fun z => absurd rfl z⟩
          · rw [nI_eq (by omega) (by omega)] at z
            exact cmp u.length 0 false (by omega) ⟨fun q => absurd q (by decide), fun q => absurd q.1 z⟩
          · rw [nI_eq (by omega) (by omega)] at z
            exact cmp u.length 0 true (by omega) ⟨fun _ => ⟨z, fun j hj => by omega⟩, fun _ => rfl⟩
        | succ f ihf =>
          intro i hi
          refine T_X12_wordOf_18 hs _ _ _ _ _ ?_
          have h1 := hu2 i (by omega)
          rw [nI_add, nI_clamp (by omega), at1 i (by omega)]
          have hne : ¬ nI (u.getD i 0) = 32 := by rw [n_32, nI_eq (by omega) (by omega)]; exact h1.1
          refine ⟨by rw [n87]; exact (vp_nI (by omega)).mpr (by omega), fun z => absurd z hne, fun _ => ?_⟩
          rw [nI_1]
          exact ihf (i + 1) (by omega)
      refine T_X12_wordOf_5 hs _ _ _ _ ?_
      rw [n87, nI_ofNat]
      (first | refine ⟨fun _ => ?_, fun n_ => absurd (show ¬ nI mBy.length ≤ nI p.length from nI_ge (by omega) (by omega)) n_⟩ | refine ⟨fun n_ => absurd (show ¬ nI mBy.length ≤ nI p.length from nI_ge (by omega) (by omega)) n_, fun _ => ?_⟩ | refine ⟨fun y_ => absurd y_ (show ¬ nI mBy.length ≤ nI p.length from nI_ge (by omega) (by omega)), fun _ => ?_⟩ | refine ⟨fun _ => ?_, fun y_ => absurd y_ (show ¬ nI mBy.length ≤ nI p.length from nI_ge (by omega) (by omega))⟩)
      exact len u.length 0 (by omega)
  exact outer mW [] 1 rfl mW_ok rfl hq
