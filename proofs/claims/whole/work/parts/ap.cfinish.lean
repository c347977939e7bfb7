/-! ===== the class's night: a minute ends ===== -/
/-- what a minute of the class changes -/
def cyF (h h' : ah_T) : Prop := Sh h' ∧ ah_x h' = ah_x h ∧ (∀ a, (a < 26 ∨ (28 < a ∧ a < 39) ∨ 53 < a) → eqc h h' a) ∧ (wB h → wB h')
/-- cells of the night that its minutes leave -/
def cyK (h h' : ah_T) : Prop := (∀ a, (a = 44 ∨ a = 45 ∨ a = 48 ∨ a = 49 ∨ a = 50 ∨ a = 51 ∨ a = 53) → ∀ j, ah_i h' a j = ah_i h a j) ∧ ∀ j, (j = 0 ∨ j = 8 ∨ j = 15) → ah_i h' 43 j = ah_i h 43 j
section CE
variable {A : Nat → Nat} {N : Nd} {h g h1 : ah_T} {sp g0 : Nat} {S : Ns} {fr : Nat → Bool}
theorem cyF_r (hs : Sh h) : cyF h h := ⟨hs, rfl, fun _ _ => eqc_rfl, fun w => w⟩
theorem cyF_t (p : cyF h g) (q : cyF g h1) : cyF h h1 := ⟨q.1, by rw [q.2.1, p.2.1], fun a n => eqc_trans (p.2.2.1 a n) (q.2.2.1 a n), fun w => q.2.2.2 (p.2.2.2 w)⟩
theorem cyF_e (p : ceN h g) : cyF h g := ⟨p.1, p.2.1, fun a n => p.2.2 a (by omega), wB_of (p.2.2 27 (by omega)).1⟩
theorem cyF_m (p : tmF h g) : cyF h g := ⟨p.1, p.2.1, fun a n => p.2.2.1 a (by omega) (by omega) (by omega) (by omega) (by omega) (by omega) (by omega), p.2.2.2⟩
theorem cyK_r : cyK h h := ⟨fun _ _ _ => rfl, fun _ _ => rfl⟩
theorem cyK_t (p : cyK h g) (q : cyK g h1) : cyK h h1 := ⟨fun a n j => by rw [q.1 a n, p.1 a n], fun j n => by rw [q.2 j n, p.2 j n]⟩
theorem cyK_m (p : tmF h g) : cyK h g := ⟨fun a n => (p.2.2.1 a (by omega) (by omega) (by omega) (by omega) (by omega) (by omega) (by omega)).1, fun j _ => (p.2.2.1 43 (by decide) (by decide) (by decide) (by decide) (by decide) (by decide) (by decide)).1 j⟩
theorem cyK_s {a j : Nat} {x : Int32} (o : a = 46 ∨ a = 47 ∨ a = 52 ∨ (a = 43 ∧ (j = 5 ∨ j = 6 ∨ j = 7 ∨ j = 14))) (p : cyK h g) : cyK h (ah_si g a j x) := ⟨fun b n i => by rw [ah_i_sn (by omega)]; exact p.1 b n i, fun i n => by rw [ah_i_sn (by omega)]; exact p.2 i n⟩
theorem cyK_d (p : cyK h g) (d : cND A N sp h) : cND A N sp g := cND_fr (fun a ha => p.1 a (by omega)) (fun j hj => p.2 j hj) d
theorem cTw_y (c : cyF h g) (t : cTw A h) : cTw A g := cTw_fr (fun a ha => (c.2.2.1 a (by omega)).1) t
theorem thV_drk (A : Nat → Nat) (l mi : Nat) : thV (lawL A) (A 242) (A 244) A l mi = drkA A l (A (61 + 3 * l)) mi := by
  unfold thV ansA drkA
  rw [if_neg (by decide)]
theorem nI_max0 {a b : Nat} (ha : a < 2 ^ 20) (hb : b < 2 ^ 20) : (if 0 < nI a - nI b then nI a - nI b else 0) = nI (a - b) := by
  rcases Nat.lt_or_ge b a with z | z
  · have e : nI a - nI b = nI (a - b) := nI_sub (by omega)
    rw [e, if_pos (show 0 < nI (a - b) from nI_lt (a := 0) (by omega) (by omega))]
  · have n : ¬ 0 < nI a - nI b := by
      rw [Int32.lt_iff_toInt_lt, nI_dif ha hb]
      show ¬ (0 : Int) < (a : Int) - b
      omega
    rw [if_neg n, show a - b = 0 by omega]
    rfl
/-- how it stands within the last loop of a minute -/
def fiJ (A : Nat → Nat) (N : Nd) (S : Ns) (gg : Nat → Bool) (m : Nat) (v : Int32) (x : Nat) (g : ah_T) : Prop := ah_i g 43 7 = v ∧ (∀ i, i < 32 → (bt (ah_i g 43 14) i = true ↔ i < N.n ∧ (S.ou i ≠ 0 ∨ gg i = true))) ∧ ah_i g 43 6 = 0 ∧ (∀ i, i < 32 → (bt (ah_i g 43 5) i = true ↔ i < N.n ∧ S.bu i = true ∧ gg i = false ∧ (i < x → 0 < S.oi i - drkA A i (N.ki i) m))) ∧ ∀ l, l < N.n → ah_i g 46 l = nI (if l < x ∧ (S.bu l && !gg l) = true then S.oi l - drkA A l (N.ki l) m else S.oi l) ∧ (S.bu l = true → gg l = false → ah_i g 47 l = nI (S.si l)) ∧ (S.ou l ≠ 0 → ah_i g 47 l = nI (S.ou l - 1)) ∧ (l < x → gg l = true → ah_i g 47 l = nI m)
theorem fiJ_fr {gg : Nat → Bool} {m x : Nat} {v : Int32} (e : ∀ a, (a = 43 ∨ a = 46 ∨ a = 47) → ∀ j, ah_i g a j = ah_i h a j) (q : fiJ A N S gg m v x h) : fiJ A N S gg m v x g := by
  unfold fiJ at q ⊢
  simp only [e 43 (by omega), e 46 (by omega), e 47 (by omega)]
  exact q
theorem c_finish {Q : Option Value → ah_T → Prop} (hs : Sh h) (t : tmN g0 A h) (d : cND A N sp h) (n : cNS N S fr h) {m : Nat} {gg : Nat → Bool} {x1 v : Int32} (e1 : x1 = nI m) (hm : m < 120) (hv : ∀ i, i < 32 → (bt v i = true ↔ i < N.n ∧ gg i = true)) (hg : ∀ l, l < N.n → gg l = true → S.bu l = true)
    (hq : ∀ h' r, cyF h h' → cyK h h' → tmN g0 A h' → cNS N (fiS A N S gg m N.n) (fun _ => false) h' → ah_i h' 43 7 = v → (∀ i, i < 32 → (bt r i = true ↔ i < N.n ∧ (S.bu i && !gg i) = true)) → Q (some (.int r)) h') : Mt mX3_finish [.ref 43, .int x1, .int v] h Q := by
  subst e1
  have d' := d
  obtain ⟨⟨d0, d1, d2, d3⟩, ⟨f1, f2, f3, f4, f5, f6, f7, f8, f9⟩, d4, d5, d6, d7, d8, d9⟩ := d'
  have n' := n
  obtain ⟨m1, m2, m3, m4, m5, m6⟩ := n'
  have wl1 := t.2.2.2.2.2.2.2.1.1
  have lp : ∀ (r : Int32), (∀ i, i < 32 → (bt r i = true ↔ i < N.n ∧ (S.bu i && !gg i) = true)) → ∀ (q x : Nat) (g : ah_T), x + q = N.n → cyF h g → cyK h g → tmN g0 A g → fiJ A N S gg m v x g → Wp mX3_finish Q 0 0 40 [some (.ref 43), some (.int (nI m)), some (.int v), some (.int r), some (.int (nI x)), none] [] g := by
    intro r hr q
    induction q with
    | zero =>
      intro x g hx f k tg J
      have e9 : x = N.n := by omega
      subst e9
      refine T_X3_finish_40 f.1 _ _ _ _ ?_
      rw [(cyK_d k d).2.2.1]
      (first | refine ⟨fun _ => ?_, fun n_ => absurd (show nI N.n ≤ nI N.n from nI_le (by omega) (by omega)) n_⟩ | refine ⟨fun n_ => absurd (show nI N.n ≤ nI N.n from nI_le (by omega) (by omega)) n_, fun _ => ?_⟩ | refine ⟨fun y_ => absurd y_ (show nI N.n ≤ nI N.n from nI_le (by omega) (by omega)), fun _ => ?_⟩ | refine ⟨fun _ => ?_, fun y_ => absurd y_ (show nI N.n ≤ nI N.n from nI_le (by omega) (by omega))⟩)
      obtain ⟨j1, j2, j3, j4, j5⟩ := J
      have eo : ∀ l, l < N.n → (fiS A N S gg m N.n).oi l = (if l < N.n ∧ (S.bu l && !gg l) = true then S.oi l - drkA A l (N.ki l) m else S.oi l) := fun l hl => rfl
      have eu : ∀ l, l < N.n → (fiS A N S gg m N.n).ou l = (if gg l = true then m + 1 else S.ou l) := by
        intro l hl
        show (if l < N.n ∧ gg l = true then m + 1 else S.ou l) = _
        by_cases z : gg l = true
        · rw [if_pos ⟨hl, z⟩, if_pos z]
        · rw [if_neg (fun y => z y.2), if_neg z]
      have eb : ∀ l, l < N.n → (fiS A N S gg m N.n).bu l = ((S.bu l && !gg l) && decide (0 < S.oi l - drkA A l (N.ki l) m)) := by
        intro l hl
        show (if l < N.n then _ else _) = _
        rw [if_pos hl]
      refine hq g r f k tg ⟨fun l hl => ⟨(m1 l hl).1, ?_, ?_⟩, fun l hl => ⟨fun y => ?_, fun y => ?_⟩, fun i hi => ?_, fun i hi => ?_, fun i hi => ?_, fun l hl => ⟨?_, fun y => ?_, fun y => ?_⟩⟩ j1 hr
      · rw [eu l hl]
        have := (m1 l hl).2.1
        split <;> omega
      · rw [eo l hl]
        have := (m1 l hl).2.2
        split <;> omega
      · rw [eb l hl] at y
        obtain ⟨y1, y2⟩ := Bool.and_eq_true_iff.mp y
        obtain ⟨y3, y4⟩ := Bool.and_eq_true_iff.mp y1
        rw [Bool.not_eq_true'] at y4
        rw [eo l hl, if_pos ⟨hl, y1⟩, eu l hl, if_neg (by rw [y4]; decide)]
        exact ⟨of_decide_eq_true y2, ((m2 l hl).1 y3).2⟩
      · rw [eu l hl] at y
        rw [eo l hl]
        by_cases z : gg l = true
        · rw [if_neg (fun w => by rw [z, Bool.not_true, Bool.and_false] at w; exact absurd w.2 (by decide))]
          exact ((m2 l hl).1 (hg l hl z)).1
        · rw [if_neg z] at y
          rw [if_neg (fun w => y ((m2 l hl).1 (Bool.and_eq_true_iff.mp w.2).1).2)]
          exact (m2 l hl).2 y
      · rw [j4 i hi]
        constructor
        · rintro ⟨y1, y2, y3, y4⟩
          refine ⟨y1, ?_⟩
          rw [eb i y1, y2, y3, decide_eq_true (y4 y1)]
          rfl
        · rintro ⟨y1, y2⟩
          rw [eb i y1] at y2
          obtain ⟨z1, z2⟩ := Bool.and_eq_true_iff.mp y2
          obtain ⟨z3, z4⟩ := Bool.and_eq_true_iff.mp z1
          rw [Bool.not_eq_true'] at z4
          exact ⟨y1, z3, z4, fun _ => of_decide_eq_true z2⟩
      · rw [j2 i hi]
        constructor
        · rintro ⟨y1, y2⟩
          refine ⟨y1, ?_⟩
          rw [eu i y1]
          by_cases z : gg i = true
          · rw [if_pos z]; omega
          · rw [if_neg z]; exact y2.resolve_right z
        · rintro ⟨y1, y2⟩
          refine ⟨y1, ?_⟩
          rw [eu i y1] at y2
          by_cases z : gg i = true
          · exact .inr z
          · rw [if_neg z] at y2; exact .inl y2
      · rw [j3, b_0]
        exact ⟨fun y => absurd y (by decide), fun y => absurd (show false = true from y.2) (by decide)⟩
      · exact (j5 l hl).1
      · rw [eb l hl] at y
        obtain ⟨z1, z2⟩ := Bool.and_eq_true_iff.mp y
        obtain ⟨z3, z4⟩ := Bool.and_eq_true_iff.mp z1
        rw [Bool.not_eq_true'] at z4
        exact (j5 l hl).2.1 z3 z4
      · rw [eu l hl] at y ⊢
        by_cases z : gg l = true
        · rw [if_pos z, (j5 l hl).2.2.2 hl z]
          rfl
        · rw [if_neg z] at y ⊢
          exact (j5 l hl).2.2.1 y
    | succ q ih =>
      intro x g hx f k tg J
      have hx2 : x < N.n := by omega
      have dg := cyK_d k d
      have vx : vp_in (nI x) 10 := (vp_nI (by omega)).mpr (by omega)
      have dk := drkA_le A x (N.ki x) m
      have ox := (m1 x hx2).2.2
      -- a lamp that is lit drinks
      have tail : ∀ (g1 : ah_T) (dd : Nat), dd = drkA A x (N.ki x) m → tmF g g1 → tmN g0 A g1 → (S.bu x && !gg x) = true → (vp_in (nI x) (ah_n g1 46)) ∧ (vp_in (nI x) (ah_n g1 46)) ∧ (∀ h22, h22 = ah_si g1 46 x (if 0 < ((ah_i g1 46 x) - nI dd) then ((ah_i g1 46 x) - nI dd) else 0) → (vp_in (nI x) (ah_n h22 46)) ∧ ((¬ (ah_i h22 46 x) = 0 → Wp mX3_finish Q 0 0 40 [some (.ref 43), some (.int (nI m)), some (.int v), some (.int r), some (.int (nI (x + 1))), none] [] h22) ∧ ((ah_i h22 46 x) = 0 → (∀ h27, h27 = ah_si h22 43 5 ((ah_i h22 43 5) &&& (((1 : Int32) <<< (nI x &&& 31)) ^^^ (-1))) → Wp mX3_finish Q 0 0 40 [some (.ref 43), some (.int (nI m)), some (.int v), some (.int r), some (.int (nI (x + 1))), none] [] h27)))) := by
        intro g1 dd ed f1 t1 lit
        obtain ⟨y3, y4⟩ := Bool.and_eq_true_iff.mp lit
        rw [Bool.not_eq_true'] at y4
        have J1 : fiJ A N S gg m v x g1 := fiJ_fr (fun a ha => (f1.2.2.1 a (by omega) (by omega) (by omega) (by omega) (by omega) (by omega) (by omega)).1) J
        obtain ⟨j1, j2, j3, j4, j5⟩ := J1
        have a46 : ah_i g1 46 x = nI (S.oi x) := by rw [(j5 x hx2).1, if_neg (fun y => by omega)]
        rw [a46, nI_max0 (by omega) (by omega), sh_n f1.1 46 10 (by decide) (by decide) rfl]
        refine ⟨vx, vx, ?_⟩
        intro h22 q22
        have s22 : Sh h22 := by rw [q22]; exact sh_si f1.1
        have x22 : ah_i h22 46 x = nI (S.oi x - dd) := by rw [q22, ah_i_ss]
        have c22 : ceN g1 h22 := by rw [q22]; exact ceN_s (by omega) (ceN_r f1.1)
        have k22 : cyK g1 h22 := by rw [q22]; exact cyK_s (by omega) cyK_r
        rw [x22, sh_n s22 46 10 (by decide) (by decide) rfl]
        -- the rows behind it
        have j5' : ∀ l, l < N.n → ah_i h22 46 l = nI (if l < x + 1 ∧ (S.bu l && !gg l) = true then S.oi l - drkA A l (N.ki l) m else S.oi l) ∧ (S.bu l = true → gg l = false → ah_i h22 47 l = nI (S.si l)) ∧ (S.ou l ≠ 0 → ah_i h22 47 l = nI (S.ou l - 1)) ∧ (l < x + 1 → gg l = true → ah_i h22 47 l = nI m) := by
          intro l hl
          obtain ⟨p1, p2, p3, p4⟩ := j5 l hl
          have e47 : ah_i h22 47 l = ah_i g1 47 l := by rw [q22, ah_i_sn (by omega)]
          rw [e47]
          by_cases z : l = x
          · subst z
            refine ⟨by rw [x22, if_pos ⟨by omega, lit⟩, ed], p2, p3, fun _ y => ?_⟩
            rw [y4] at y; exact absurd y (by decide)
          · refine ⟨?_, p2, p3, fun y => p4 (by omega)⟩
            rw [q22, ah_i_sn (by omega), p1]
            congr 1
            by_cases y : l < x ∧ (S.bu l && !gg l) = true
            · rw [if_pos y, if_pos (⟨by omega, y.2⟩ : l < x + 1 ∧ (S.bu l && !gg l) = true)]
            · rw [if_neg y, if_neg (fun w : l < x + 1 ∧ (S.bu l && !gg l) = true => y ⟨by omega, w.2⟩)]
        have fx : cyF h h22 := cyF_t f (cyF_t (cyF_m f1) (cyF_e c22))
        have kx : cyK h h22 := cyK_t k (cyK_t (cyK_m f1) k22)
        have tx2 : tmN g0 A h22 := tmO_n c22 t1
        have k43 : ∀ j, ah_i h22 43 j = ah_i g1 43 j := fun j => by rw [q22, ah_i_sn (by omega)]
        refine ⟨vx, fun z => ih (x + 1) h22 (by omega) fx kx tx2 ⟨by rw [k43]; exact j1, by rw [k43]; exact j2, by rw [k43]; exact j3, fun i hi => ?_, j5'⟩, fun z => ?_⟩
        · rw [k43, j4 i hi]
          refine ⟨fun y => ⟨y.1, y.2.1, y.2.2.1, fun w => ?_⟩, fun y => ⟨y.1, y.2.1, y.2.2.1, fun w => y.2.2.2 (by omega)⟩⟩
          by_cases u : i = x
          · subst u
            rcases Nat.eq_zero_or_pos (S.oi i - dd) with u2 | u2
            · rw [u2] at z; exact absurd rfl z
            · rw [← ed]; exact u2
          · exact y.2.2.2 (by omega)
        · have z0 : S.oi x - dd = 0 := (nI_eq (b := 0) (by omega) (by omega)).mp z
          rintro h27 rfl
          refine ih (x + 1) _ (by omega) (cyF_t fx (cyF_e (ceN_s (by omega) (ceN_r s22)))) (cyK_s (by omega) kx) (tmO_n (ceN_s (by omega) (ceN_r s22)) tx2) ⟨by rw [ah_i_sn (by omega), k43]; exact j1, by rw [ah_i_sn (by omega), k43]; exact j2, by rw [ah_i_sn (by omega), k43]; exact j3, fun i hi => ?_, fun l hl => ?_⟩
          · rw [ah_i_ss, b_and, b_not _ hi, b_1sh (by omega) hi, Bool.and_eq_true, Bool.not_eq_true', decide_eq_false_iff_not, k43, j4 i hi]
            refine ⟨fun y => ⟨y.1.1, y.1.2.1, y.1.2.2.1, fun w => y.1.2.2.2 (by have := y.2; omega)⟩, fun y => ⟨⟨y.1, y.2.1, y.2.2.1, fun w => y.2.2.2 (by omega)⟩, fun u => ?_⟩⟩
            subst u
            have := y.2.2.2 (by omega)
            omega
          · rw [ah_i_sn (by omega), ah_i_sn (by omega)]
            exact j5' l hl
      obtain ⟨j1, j2, j3, j4, j5⟩ := J
      have J : fiJ A N S gg m v x g := ⟨j1, j2, j3, j4, j5⟩
      refine T_X3_finish_40 f.1 _ _ _ _ ?_
      rw [dg.2.2.1]
      (first | refine ⟨fun _ => ?_, fun n_ => absurd (show ¬ nI N.n ≤ nI x from nI_ge (by omega) (by omega)) n_⟩ | refine ⟨fun n_ => absurd (show ¬ nI N.n ≤ nI x from nI_ge (by omega) (by omega)) n_, fun _ => ?_⟩ | refine ⟨fun y_ => absurd y_ (show ¬ nI N.n ≤ nI x from nI_ge (by omega) (by omega)), fun _ => ?_⟩ | refine ⟨fun _ => ?_, fun y_ => absurd y_ (show ¬ nI N.n ≤ nI x from nI_ge (by omega) (by omega))⟩)
      rw [nI_1, nI_clamp (show x < 2 ^ 31 by omega), dg.2.2.2.2.1, b_bit v x (by omega), b_bit r x (by omega), sh_n f.1 45 10 (by decide) (by decide) rfl, sh_n f.1 47 10 (by decide) (by decide) rfl]
      have dark : (S.bu x && !gg x) = false → gg x = false → Wp mX3_finish Q 0 0 40 [some (.ref 43), some (.int (nI m)), some (.int v), some (.int r), some (.int (nI (x + 1))), none] [] g := by
        intro z zg
        refine ih (x + 1) g (by omega) f k tg ⟨j1, j2, j3, fun i hi => (j4 i hi).trans ?_, fun l hl => ?_⟩
        · refine ⟨fun y => ⟨y.1, y.2.1, y.2.2.1, fun w => ?_⟩, fun y => ⟨y.1, y.2.1, y.2.2.1, fun w => y.2.2.2 (by omega)⟩⟩
          by_cases u : i = x
          · subst u
            rw [y.2.1, y.2.2.1] at z
            exact absurd z (by decide)
          · exact y.2.2.2 (by omega)
        · obtain ⟨p1, p2, p3, p4⟩ := j5 l hl
          refine ⟨?_, p2, p3, fun y w => ?_⟩
          · rw [p1]
            congr 1
            by_cases y : l < x ∧ (S.bu l && !gg l) = true
            · rw [if_pos y, if_pos (⟨by omega, y.2⟩ : l < x + 1 ∧ (S.bu l && !gg l) = true)]
            · rw [if_neg y, if_neg (fun w : l < x + 1 ∧ (S.bu l && !gg l) = true => ?_)]
              by_cases u : l = x
              · subst u; rw [z] at w; exact absurd w.2 (by decide)
              · exact y ⟨by omega, w.2⟩
          · by_cases u : l = x
            · subst u; rw [zg] at w; exact absurd w (by decide)
            · exact p4 (by omega) w
      refine ⟨fun zv => ⟨fun zr => ?_, fun zr => ?_⟩, fun zv => ⟨vx, ?_⟩⟩
      · have rt : bt r x = true := by cases e : bt r x; exact absurd e zr; rfl
        have lit := ((hr x (by omega)).mp rt).2
        have dgs := dg
        by_cases zs : x + 1 = sp
        · rw [← zs, nO_s]
          (first | refine ⟨fun _ => ?_, fun n_ => absurd (show nI x = nI x from rfl) n_⟩ | refine ⟨fun n_ => absurd (show nI x = nI x from rfl) n_, fun _ => ?_⟩ | refine ⟨fun y_ => absurd y_ (show nI x = nI x from rfl), fun _ => ?_⟩ | refine ⟨fun _ => ?_, fun y_ => absurd y_ (show nI x = nI x from rfl)⟩)
          obtain ⟨c1, c2⟩ := dg.2.2.2.2.2.1 x hx2
          obtain ⟨v1, v2⟩ := d1 x hx2
          rw [c2]
          refine ⟨vx, c_ask f.1 tg.1 tg.2.1 tg.2.2.1 (what := 2) (w := wQ x (N.ki x) (-1) (-1) (-1) m (A 242) (A 244)) rfl (by omega) (nI_toInt (by omega)) (nI_toInt (by omega)) rfl rfl rfl (nI_toInt (by omega)) rfl rfl (wQ_rg ⟨by omega, by omega⟩ ⟨by omega, by omega⟩ ⟨by omega, by omega⟩ ⟨by omega, by omega⟩ ⟨by omega, by omega⟩ ⟨by omega, by omega⟩) (fun g1 f1 tp1 => ⟨_, rfl, f1.1, ?_⟩)⟩
          exact tail g1 _ (by unfold ansA drkA; rw [if_neg (by decide)]) (tmF_ak f1) (tm_ask f1 tp1 tg) lit
        · have ns : ¬ nI x = nO sp := by
            intro y
            rcases Nat.eq_zero_or_pos sp with w | w
            · rw [w] at y; exact nI_m1 (by omega) y
            · rw [show sp = (sp - 1) + 1 by omega, nO_s] at y
              have := (nI_eq (by omega) (by omega)).mp y
              omega
          (first | refine ⟨fun _ => ?_, fun n_ => absurd (ns) n_⟩ | refine ⟨fun n_ => absurd (ns) n_, fun _ => ?_⟩ | refine ⟨fun y_ => absurd y_ (ns), fun _ => ?_⟩ | refine ⟨fun _ => ?_, fun y_ => absurd y_ (ns)⟩)
          have hx3 : x < A 246 := by
            rcases Nat.lt_or_ge x (A 246) with y | y
            · exact y
            · have := f5 (by omega); omega
          refine c_thirst f.1 tg rfl rfl hx3 hm (fun g1 f1 t1 => ⟨_, rfl, f1.1, ?_⟩)
          exact tail g1 _ (by rw [thV_drk, (f4 x hx3).2 zs]) f1 t1 lit
      · have rf : (S.bu x && !gg x) = false := by
          cases e : (S.bu x && !gg x)
          · rfl
          · have := (hr x (by omega)).mpr ⟨hx2, e⟩
            rw [zr] at this; exact absurd this (by decide)
        have gf : gg x = false := by
          cases e : gg x
          · rfl
          · have := (hv x (by omega)).mpr ⟨hx2, e⟩
            rw [zv] at this; exact absurd this (by decide)
        exact dark rf gf
      · intro h45 q45
        have s45 : Sh h45 := by rw [q45]; exact sh_si f.1
        have vt : bt v x = true := by cases e : bt v x; exact absurd e zv; rfl
        have gt := ((hv x (by omega)).mp vt).2
        have c45 : ceN g h45 := by rw [q45]; exact ceN_s (by omega) (ceN_r f.1)
        have k45 : cyK g h45 := by rw [q45]; exact cyK_s (by omega) cyK_r
        refine ⟨fun zr => ?_, fun zr => ?_⟩
        · exfalso
          have rt : bt r x = true := by cases e : bt r x; exact absurd e zr; rfl
          have lit := ((hr x (by omega)).mp rt).2
          rw [gt, Bool.not_true, Bool.and_false] at lit
          exact absurd lit (by decide)
        · have bx := hg x hx2 gt
          have a43 : ∀ j, ah_i h45 43 j = ah_i g 43 j := fun j => by rw [q45, ah_i_sn (by omega)]
          refine ih (x + 1) h45 (by omega) (cyF_t f (cyF_e c45)) (cyK_t k k45) (tmO_n c45 tg) ⟨by rw [a43]; exact j1, by rw [a43]; exact j2, by rw [a43]; exact j3, fun i hi => ?_, fun l hl => ?_⟩
          · rw [a43, j4 i hi]
            refine ⟨fun y => ⟨y.1, y.2.1, y.2.2.1, fun w => ?_⟩, fun y => ⟨y.1, y.2.1, y.2.2.1, fun w => y.2.2.2 (by omega)⟩⟩
            by_cases u : i = x
            · subst u
              rw [gt] at y
              exact absurd y.2.2.1 (by decide)
            · exact y.2.2.2 (by omega)
          · obtain ⟨p1, p2, p3, p4⟩ := j5 l hl
            have e46 : ah_i h45 46 l = ah_i g 46 l := by rw [q45, ah_i_sn (by omega)]
            rw [e46, p1]
            by_cases z : l = x
            · subst z
              have e47 : ah_i h45 47 l = nI m := by rw [q45, ah_i_ss]
              rw [e47]
              refine ⟨?_, fun _ y => ?_, fun y => absurd ((m2 l hl).1 bx).2 y, fun _ _ => rfl⟩
              · rw [if_neg (fun y => by omega), if_neg (fun y => by rw [gt, Bool.not_true, Bool.and_false] at y; exact absurd y.2 (by decide))]
              · rw [gt] at y; exact absurd y (by decide)
            · have e47 : ah_i h45 47 l = ah_i g 47 l := by rw [q45, ah_i_sn (by omega)]
              rw [e47]
              refine ⟨?_, p2, p3, fun y => p4 (by omega)⟩
              congr 1
              by_cases y : l < x ∧ (S.bu l && !gg l) = true
              · rw [if_pos y, if_pos (⟨by omega, y.2⟩ : l < x + 1 ∧ (S.bu l && !gg l) = true)]
              · rw [if_neg y, if_neg (fun w : l < x + 1 ∧ (S.bu l && !gg l) = true => y ⟨by omega, w.2⟩)]
  refine T_X3_finish hs _ _ ?_
  intro u1 q1 u2 q2 u3 q3 u4 q4
  have a14 : ah_i u1 43 14 = ah_i h 43 14 := by rw [q1, ah_i_sn (by omega)]
  have a5 : ah_i u2 43 5 = ah_i h 43 5 := by rw [q2, ah_i_sn (by omega), q1, ah_i_sn (by omega)]
  rw [a14] at q2
  rw [a5] at q3
  have r5 : ah_i u4 43 5 = (ah_i h 43 5 &&& (v ^^^ (-1))) := by rw [q4, ah_i_sn (by omega), q3, ah_i_ss]
  have br : ∀ i, i < 32 → (bt (ah_i h 43 5 &&& (v ^^^ (-1))) i = true ↔ i < N.n ∧ (S.bu i && !gg i) = true) := by
    intro i hi
    rw [b_and, b_not _ hi, Bool.and_eq_true, m3 i hi, Bool.not_eq_true']
    constructor
    · rintro ⟨⟨y1, y2⟩, y3⟩
      refine ⟨y1, ?_⟩
      rw [y2, Bool.true_and, Bool.not_eq_true']
      cases e : gg i
      · rfl
      · have := (hv i hi).mpr ⟨y1, e⟩
        rw [y3] at this; exact absurd this (by decide)
    · rintro ⟨y1, y2⟩
      obtain ⟨y3, y4⟩ := Bool.and_eq_true_iff.mp y2
      rw [Bool.not_eq_true'] at y4
      refine ⟨⟨y1, y3⟩, ?_⟩
      cases e : bt v i
      · rfl
      · have := ((hv i hi).mp e).2
        rw [y4] at this; exact absurd this (by decide)
  have c4 : ceN h u4 := by rw [q4, q3, q2, q1]; exact ceN_s (by omega) (ceN_s (by omega) (ceN_s (by omega) (ceN_s (by omega) (ceN_r hs))))
  have k4 : cyK h u4 := by rw [q4, q3, q2, q1]; exact cyK_s (by omega) (cyK_s (by omega) (cyK_s (by omega) (cyK_s (by omega) cyK_r)))
  rw [r5]
  refine lp _ br N.n 0 u4 (by omega) (cyF_e c4) k4 (tmO_n c4 t) ⟨?_, fun i hi => ?_, ?_, fun i hi => ?_, fun l hl => ?_⟩
  · rw [q4, ah_i_sn (by omega), q3, ah_i_sn (by omega), q2, ah_i_sn (by omega), q1, ah_i_ss]
  · rw [q4, ah_i_sn (by omega), q3, ah_i_sn (by omega), q2, ah_i_ss, b_or, Bool.or_eq_true, m4 i hi, hv i hi]
    constructor
    · rintro (y | y)
      · exact ⟨y.1, .inl y.2⟩
      · exact ⟨y.1, .inr y.2⟩
    · rintro ⟨y1, y | y⟩
      · exact .inl ⟨y1, y⟩
      · exact .inr ⟨y1, y⟩
  · rw [q4, ah_i_ss]
  · rw [r5, br i hi, Bool.and_eq_true, Bool.not_eq_true']
    exact ⟨fun y => ⟨y.1, y.2.1, y.2.2, fun w => absurd w (by omega)⟩, fun y => ⟨y.1, y.2.1, y.2.2.1⟩⟩
  · have e46 : ah_i u4 46 l = ah_i h 46 l := by rw [q4, ah_i_sn (by omega), q3, ah_i_sn (by omega), q2, ah_i_sn (by omega), q1, ah_i_sn (by omega)]
    have e47 : ah_i u4 47 l = ah_i h 47 l := by rw [q4, ah_i_sn (by omega), q3, ah_i_sn (by omega), q2, ah_i_sn (by omega), q1, ah_i_sn (by omega)]
    rw [e46, e47]
    obtain ⟨p1, p2, p3⟩ := m6 l hl
    refine ⟨?_, fun y _ => p2 y, p3, fun y => absurd y (by omega)⟩
    rw [if_neg (fun y => by omega)]
    exact p1
end CE
