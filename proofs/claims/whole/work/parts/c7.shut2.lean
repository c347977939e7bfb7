/-! ===== shutters: the class learns of a quarrel ===== -/
def lnF (h g : ah_T) : Prop := Sh g ∧ ah_x g = ah_x h ∧ (∀ a, a ≠ 26 → a ≠ 27 → a ≠ 28 → a ≠ 39 → a ≠ 79 → eqc h g a) ∧ (wB h → wB g) ∧ ∀ j i, i < 32 → bt (ah_i h 79 j) i = true → bt (ah_i g 79 j) i = true
/-- one shuns another kind by a sight -/
def qvS (A : Nat → Nat) (l kl kx m la : Nat) (v : Nat) : Prop := shS9 A l kl kx v la m = true
section LN
variable {A : Nat → Nat} {h g u : ah_T} {m l o k v a b n g0 kl kx la p : Nat} {N : Nd} {S : Ns} {fr : Nat → Bool}
theorem lnF_r (hs : Sh h) : lnF h h := ⟨hs, rfl, fun _ _ _ _ _ _ => eqc_rfl, fun w => w, fun _ _ _ y => y⟩
theorem lnF_t {h1 : ah_T} (p : lnF h g) (q : lnF g h1) : lnF h h1 := ⟨q.1, by rw [q.2.1, p.2.1], fun a n1 n2 n3 n4 n5 => eqc_trans (p.2.2.1 a n1 n2 n3 n4 n5) (q.2.2.1 a n1 n2 n3 n4 n5), fun w => q.2.2.2.1 (p.2.2.2.1 w), fun j i hi y => q.2.2.2.2 j i hi (p.2.2.2.2 j i hi y)⟩
theorem lnF_a (f : akF h g) : lnF h g := ⟨f.1, f.2.1, fun a n1 n2 n3 n4 _ => f.2.2.1 a n1 n2 n3 n4, f.2.2.2, fun j i _ y => by rw [(f.2.2.1 79 (by decide) (by decide) (by decide) (by decide)).1]; exact y⟩
theorem lnF_79 (hs : Sh h) {p v : Nat} (hv : v < 32) : lnF h (ah_si h 79 p (ah_i h 79 p ||| (1 : Int32) <<< (nI v &&& 31))) := by
  refine ⟨sh_si hs, ah_x_si _ _ _ _, fun a _ _ _ _ n5 => eqc_si eqc_rfl n5, wB_of (fun j => ah_i_sn (by omega)), fun j i hi y => ?_⟩
  by_cases z : j = p
  · rw [z, ah_i_ss, b_or, ← z, y]; rfl
  · rw [ah_i_sn (fun w => z w.2)]; exact y
theorem cor_79 {x : Int32} (c : cor g0 A h) (hs : Sh h) : cor g0 A (ah_si h 79 p x) := cor_g (fun a ha => eqc_si eqc_rfl (by omega)) (.inr trivial) (sh_si hs) (ah_x_si _ _ _ _) c
theorem c_as9 {Q : Option Value → ah_T → Prop} (hs : Sh h) (c : cor g0 A h) {x1 x2 x3 x4 x5 x6 : Int32} (e1 : x1 = nI l) (e2 : x2 = nI k) (e3 : x3 = nI o) (e4 : x4 = nO v) (e5 : x5 = nI la) (e6 : x6 = nI m) (hl : l < 10) (hk : k < 6) (ho : o < 6) (hv : v < 13) (hla : la < 2) (hm : m < 120) (hq : ∀ g w, akF h g → cor g0 A g → (¬ w = 0 ↔ shS9 A l k o v la m = true) → Q (some (.int w)) g) : Mt mX8_ask [.ref 38, .int 0, .int x1, .int x2, .int x3, .int x4, .int x5, .int x6] h Q := by
  subst e1 e2 e3 e4 e5 e6
  have tm := c.2.1
  refine c_ask hs tm.1 tm.2.1 tm.2.2.1 (what := 0) (w := wQ (l : Int) k o ((v : Int) - 1) (la : Int) m (A 242) (A 244)) rfl (by omega) (nI_toInt (by omega)) (nI_toInt (by omega)) (nI_toInt (by omega)) (nO_i (by omega)) (nI_toInt (by omega)) (nI_toInt (by omega)) rfl rfl (wQ_rg ⟨by omega, by omega⟩ ⟨by omega, by omega⟩ ⟨by omega, by omega⟩ ⟨by omega, by omega⟩ ⟨by omega, by omega⟩ ⟨by omega, by omega⟩) (fun g1 fa tp => hq g1 _ fa (cor_m (tmF_ak fa) (tm_ask fa tp tm) c) ?_)
  unfold ansA shS9
  rw [if_pos rfl]
  cases ansS (lawL A) (wQ (l : Int) k o ((v : Int) - 1) (la : Int) m (A 242) (A 244)) with
  | false => exact ⟨fun y => absurd rfl y, fun y => absurd y (by decide)⟩
  | true => exact ⟨fun _ => rfl, fun _ => by decide⟩
theorem c_lrn71 {Q : Option Value → ah_T → Prop} {u0 : Int32} (hl : l < 10) (hkl : kl < 6) (hkx : kx < 6) (hla : la < 2) (hm : m < 120) (hp : p < 144) (k45 : ah_i h 45 l = nI kl)
    (hq : ∀ g, lnF h g → cor g0 A g → (∀ v, v < 13 → bt u0 v = true → qvS A l kl kx m la v → bt (ah_i g 79 p) v = true) → (∀ j i, i < 32 → bt (ah_i g 79 j) i = true → bt (ah_i h 79 j) i = true ∨ (j = p ∧ bt u0 i = true ∧ qvS A l kl kx m la i)) → Q none g) :
    ∀ (q v : Nat) (u : ah_T), v + q = 13 → lnF h u → cor g0 A u → (∀ v', v' < v → bt u0 v' = true → qvS A l kl kx m la v' → bt (ah_i u 79 p) v' = true) → (∀ j i, i < 32 → bt (ah_i u 79 j) i = true → bt (ah_i h 79 j) i = true ∨ (j = p ∧ bt u0 i = true ∧ qvS A l kl kx m la i)) → Wp mX4_learn Q 0 0 71 [some (.ref 74), some (.int (nI l)), none, some (.int (nI kx)), none, some (.int (nI m)), some (.int (nI p)), some (.int (nI la)), some (.int u0), some (.int (nO v))] [] u := by
  have n79 : ∀ {u : ah_T}, Sh u → ah_n u 79 = 144 := fun hs => sh_n hs 79 144 (by decide) (by decide) rfl
  intro q
  induction q with
  | zero =>
    intro v u hv fu cu kn sd
    have e9 : v = 13 := by omega
    subst e9
    refine T_X4_learn_71 fu.1 _ _ _ _ _ _ _ ?_
    (first | refine ⟨fun _ => ?_, fun n_ => absurd (show (12 : Int32) ≤ nO 13 by decide) n_⟩ | refine ⟨fun n_ => absurd (show (12 : Int32) ≤ nO 13 by decide) n_, fun _ => ?_⟩ | refine ⟨fun y_ => absurd y_ (show (12 : Int32) ≤ nO 13 by decide), fun _ => ?_⟩ | refine ⟨fun _ => ?_, fun y_ => absurd y_ (show (12 : Int32) ≤ nO 13 by decide)⟩)
    exact hq u fu cu kn sd
  | succ q ih =>
    intro v u hv fu cu kn sd
    have hv13 : v < 13 := by omega
    have u45 : ah_i u 45 l = nI kl := by rw [(fu.2.2.1 45 (by decide) (by decide) (by decide) (by decide) (by decide)).1]; exact k45
    -- go on, this sight done
    have go : ∀ w, lnF h w → cor g0 A w → (∀ v', v' < v + 1 → bt u0 v' = true → qvS A l kl kx m la v' → bt (ah_i w 79 p) v' = true) → (∀ j i, i < 32 → bt (ah_i w 79 j) i = true → bt (ah_i h 79 j) i = true ∨ (j = p ∧ bt u0 i = true ∧ qvS A l kl kx m la i)) → Wp mX4_learn Q 0 0 71 [some (.ref 74), some (.int (nI l)), none, some (.int (nI kx)), none, some (.int (nI m)), some (.int (nI p)), some (.int (nI la)), some (.int u0), some (.int (nI v))] [] w := by
      intro w fw cw kw sw
      have := ih (v + 1) w (by omega) fw cw kw sw
      rw [nO_s] at this
      exact this
    have ext : ∀ (w : ah_T), (∀ j i, i < 32 → bt (ah_i u 79 j) i = true → bt (ah_i w 79 j) i = true) → (bt u0 v = true → qvS A l kl kx m la v → bt (ah_i w 79 p) v = true) → ∀ v', v' < v + 1 → bt u0 v' = true → qvS A l kl kx m la v' → bt (ah_i w 79 p) v' = true := by
      intro w gw hw v' hv' b1 b2
      by_cases z : v' = v
      · subst z; exact hw b1 b2
      · exact gw p v' (by omega) (kn v' (by omega) b1 b2)
    have same : ∀ {w : ah_T}, akF u w → (∀ j i, i < 32 → bt (ah_i w 79 j) i = true → bt (ah_i h 79 j) i = true ∨ (j = p ∧ bt u0 i = true ∧ qvS A l kl kx m la i)) := fun fa j i hi y => sd j i hi (by rw [(fa.2.2.1 79 (by decide) (by decide) (by decide) (by decide)).1] at y; exact y)
    have grow : ∀ {w : ah_T}, akF u w → ∀ j i, i < 32 → bt (ah_i u 79 j) i = true → bt (ah_i w 79 j) i = true := fun fa j i hi y => (lnF_a fa).2.2.2.2 j i hi y
    refine T_X4_learn_71 fu.1 _ _ _ _ _ _ _ ?_
    (first | refine ⟨fun _ => ?_, fun n_ => absurd (show ¬ (12 : Int32) ≤ nO v from (by decide +kernel : ∀ v, v < 13 → ¬ (12 : Int32) ≤ nO v) v hv13) n_⟩ | refine ⟨fun n_ => absurd (show ¬ (12 : Int32) ≤ nO v from (by decide +kernel : ∀ v, v < 13 → ¬ (12 : Int32) ≤ nO v) v hv13) n_, fun _ => ?_⟩ | refine ⟨fun y_ => absurd y_ (show ¬ (12 : Int32) ≤ nO v from (by decide +kernel : ∀ v, v < 13 → ¬ (12 : Int32) ≤ nO v) v hv13), fun _ => ?_⟩ | refine ⟨fun _ => ?_, fun y_ => absurd y_ (show ¬ (12 : Int32) ≤ nO v from (by decide +kernel : ∀ v, v < 13 → ¬ (12 : Int32) ≤ nO v) v hv13)⟩)
    rw [nO_1]
    refine ⟨fun z => ?_, fun z => ⟨fun y => ?_, fun y => ⟨?_, ?_⟩⟩⟩
    · refine hq u fu cu (fun v' _ b1 => ?_) sd
      rw [z, b_0] at b1
      exact absurd b1 (by decide)
    · rw [b_bit _ _ (by omega)] at y
      exact go u fu cu (ext u (fun _ _ _ y => y) (fun b1 => by rw [y] at b1; exact absurd b1 (by decide))) sd
    · rw [sh_n fu.1 45 10 (by decide) (by decide) rfl]
      exact (vp_nI (by omega)).mpr (by omega)
    have b0 : bt u0 v = true := by
      rw [b_bit _ _ (by omega)] at y
      cases e : bt u0 v
      · exact absurd e y
      · rfl
    have e45 : ah_i u 45 (Int32.toNatClampNeg (nI l)) = nI kl := by rw [nI_clamp (show l < 2 ^ 31 by omega)]; exact u45
    refine c_as9 fu.1 cu rfl e45 rfl rfl rfl rfl hl hkl hkx hv13 hla hm (fun w v1 fa cw iv => ⟨_, rfl, fa.1, fun z1 => ?_, fun z1 => ?_⟩)
    · exact go w (lnF_t fu (lnF_a fa)) cw (ext w (grow fa) (fun _ qv => absurd z1 (iv.mpr qv))) (same fa)
    -- it is a quarrel
    have qv : qvS A l kl kx m la v := iv.mp z1
    have vp : vp_in (nI p) 144 := (vp_nI (by omega)).mpr hp
    rw [n79 fa.1, nI_clamp (show p < 2 ^ 31 by omega)]
    refine ⟨vp, vp, ?_⟩
    rintro _ rfl
    have f9 := lnF_79 (p := p) (v := v) fa.1 (by omega)
    refine go _ (lnF_t fu (lnF_t (lnF_a fa) f9)) (cor_79 cw fa.1) (ext _ (fun j i hi y => f9.2.2.2.2 j i hi (grow fa j i hi y)) (fun _ _ => ?_)) (fun j i hi y => ?_)
    · rw [ah_i_ss, b_or, b_1sh (by omega) (by omega), decide_eq_true rfl, Bool.or_true]
    · by_cases z1 : j = p
      · subst z1
        rw [ah_i_ss, b_or, b_1sh (by omega) hi, Bool.or_eq_true, decide_eq_true_eq] at y
        rcases y with y | y
        · exact same fa j i hi y
        · subst y
          exact .inr ⟨rfl, b0, qv⟩
      · rw [ah_i_sn (fun w => z1 w.2)] at y
        exact same fa j i hi y
/-- sights that may be, as the class has them -/
theorem po_b : ∀ s, s < 13 → 0 < s → ∀ i, i < 32 → ((1 ||| (2 ^ 13 - 2 ^ s)).testBit i = true ↔ (i = 0 ∨ (s ≤ i ∧ i ≤ 12))) := by decide +kernel
theorem f_ps (d : dst (Ew A (shS A)) a b (ah_i h 34 (12 * a + b))) (ha : a < 12) (hb : b < 12) : ∀ i, i < 32 → (bt (f_X4_possibleSights h (nI (12 * a + b))) i = true ↔ poS A a b i) := by
  obtain ⟨d1, d2, _⟩ := sgN_d d
  have n12 : (12 : Int32) = nI 12 := rfl
  have e1 : nI (12 * a + b) / 12 = nI a := by
    rw [n12, nI_divI (by omega) (by omega), show (12 * a + b) / 12 = a by omega]
  have e2 : nI (12 * a + b) - nI a * 12 = nI b := by
    rw [← e1, n12, nI_remI (by omega) (by omega), show (12 * a + b) % 12 = b by omega]
  intro i hi
  unfold f_X4_possibleSights poS
  rw [e1, e2, f_sight ha hb, d1, nO_1]
  have one : bt ((1 : Int32) <<< (nI (sgN A a b) &&& 31)) i = true ↔ i = sgN A a b := by
    rw [b_1sh (by omega) hi, decide_eq_true_eq]
  by_cases z : a = b
  · rw [if_pos (by rw [z]), one]
    exact ⟨.inl, fun y => y.resolve_right (fun w => w.1 z)⟩
  · rw [if_neg (fun y => z ((nI_eq (by omega) (by omega)).mp y))]
    by_cases z0 : sgN A a b = 0
    · rw [if_pos (by rw [z0]; rfl), one]
      exact ⟨.inl, fun y => y.resolve_right (fun w => w.2.1 z0)⟩
    · have zm : ¬ nO (sgN A a b) = -1 := fun y => z0 (by
        have := congrArg (· + 1) y
        simp only [nO_1] at this
        exact (nI_eq (b := 0) (by omega) (by omega)).mp this)
      rw [if_neg zm, nI_1sh (by omega), show (8192 : Int32) = nI (2 ^ 13) from rfl, nI_sub (Nat.pow_le_pow_right (by decide) (by omega)), show (1 : Int32) = nI 1 from rfl, nI_or, nb hi, po_b _ d2 (by omega) i hi]
      constructor
      · rintro y
        exact .inr ⟨z, z0, y⟩
      · rintro (y | y)
        · rw [y]; exact .inr ⟨Nat.le_refl _, by omega⟩
        · exact y.2.2
theorem v_ps (hs : Sh h) (ha : a < 12) (hb : b < 12) : (¬ (f_X11_isIn (nI (12 * a + b) / 12) 12) = 0 → (¬ (f_X11_isIn (nI (12 * a + b) - nI (12 * a + b) / 12 * 12) 12) = 0 → vp_in (((nI (12 * a + b) / 12) * 12) + (nI (12 * a + b) - nI (12 * a + b) / 12 * 12)) (ah_n h 34))) := by
  have n12 : (12 : Int32) = nI 12 := rfl
  have e1 : nI (12 * a + b) / 12 = nI a := by
    rw [n12, nI_divI (by omega) (by omega), show (12 * a + b) / 12 = a by omega]
  have e2 : nI (12 * a + b) - nI a * 12 = nI b := by
    rw [← e1, n12, nI_remI (by omega) (by omega), show (12 * a + b) % 12 = b by omega]
  rw [e1, e2]
  exact v_sight hs ha hb
end LN
