/-! ===== strangers on both sides ===== -/
section ST
variable {KX : ah_T → Prop} {RX WX SX : (Nat → Nat) → ah_T → Prop} {A : Nat → Nat} {N : Nd} {h g h1 : ah_T} {g0 sp n : Nat} {p : Nat → Bool}
theorem nI_divI {a b : Nat} (ha : a < 2 ^ 31) (hb : b < 2 ^ 31) : nI a / nI b = nI (a / b) := by
  apply Int32.toInt_inj.mp
  have hab : a / b < 2 ^ 31 := Nat.lt_of_le_of_lt (Nat.div_le_self a b) ha
  rw [Int32.toInt_div, nI_toInt ha, nI_toInt hb, nI_toInt hab, ← Int.ofNat_tdiv]
  generalize a / b = c at hab ⊢
  apply Int.bmod_eq_of_le <;> omega
theorem nI_remI {a b : Nat} (ha : a < 2 ^ 31) (hb : b < 2 ^ 31) : nI a - nI a / nI b * nI b = nI (a % b) := by
  have e := Nat.div_add_mod a b
  have e2 : a / b * b + a % b = a := by rw [Nat.mul_comm]; exact e
  rw [nI_divI ha hb, nI_mul, nI_sub (by omega)]
  congr 1
  omega
/-- those found, in their order -/
def fdO (p : Nat → Bool) (K t : Nat) (h : ah_T) : Prop := ah_i h t 3 = nI (cb p K) ∧ ∀ x, x < K → p x = true → ah_i h (t + 1) (cb p x) = nI x
theorem cb_mono (p : Nat → Bool) {a : Nat} : ∀ {b : Nat}, a ≤ b → cb p a ≤ cb p b
  | 0, h => by rw [show a = 0 by omega]; exact Nat.le_refl _
  | b + 1, h => by
    by_cases z : a = b + 1
    · rw [z]; exact Nat.le_refl _
    · have := cb_mono p (show a ≤ b by omega)
      show cb p a ≤ cb p b + (if p b = true then 1 else 0)
      omega
theorem cb_lt {a b : Nat} (h : a < b) (e : p a = true) : cb p a < cb p b := by
  have := cb_mono p (show a + 1 ≤ b from h)
  have e2 : cb p (a + 1) = cb p a + (if p a = true then 1 else 0) := rfl
  rw [if_pos e] at e2
  omega
theorem cb_find {j : Nat} : ∀ K, j < cb p K → ∃ x, x < K ∧ p x = true ∧ cb p x = j
  | 0, h => absurd h (by show ¬ j < 0; omega)
  | K + 1, h => by
    have e : cb p (K + 1) = cb p K + (if p K = true then 1 else 0) := rfl
    by_cases z : j < cb p K
    · obtain ⟨x, y1, y2⟩ := cb_find K z
      exact ⟨x, by omega, y2⟩
    · by_cases w : p K = true
      · rw [if_pos w] at e
        exact ⟨K, by omega, w, by omega⟩
      · rw [if_neg w] at e
        omega
theorem cb_s1 {k : Nat} (e : p k = true) : cb p (k + 1) = cb p k + 1 := by show cb p k + (if p k = true then 1 else 0) = _; rw [if_pos e]
theorem cb_s0 {k : Nat} (e : p k = false) : cb p (k + 1) = cb p k := by show cb p k + (if p k = true then 1 else 0) = _; rw [if_neg (by rw [e]; decide)]; rfl
theorem fdO_no {t k : Nat} (hp : p k = false) (f : fdO p k t h) : fdO p (k + 1) t h := by
  refine ⟨by rw [cb_s0 hp]; exact f.1, fun x hx y => ?_⟩
  by_cases z : x = k
  · subst z; rw [hp] at y; exact absurd y (by decide)
  · exact f.2 x (by omega) y
theorem fdO_fr {t k : Nat} (e : ∀ j, ah_i g t j = ah_i h t j) (e2 : ∀ j, ah_i g (t + 1) j = ah_i h (t + 1) j) (f : fdO p k t h) : fdO p k t g := ⟨by rw [e]; exact f.1, fun x hx y => by rw [e2]; exact f.2 x hx y⟩
/-- the answer to which of them -/
def pkR (p : Nat → Bool) (K : Nat) (x v : Int32) : Prop := (x = -1 ∧ v = nI (cb p K)) ∨ (∃ k, k < K ∧ p k = true ∧ x = nI (cb p k) ∧ v = nI k) ∨ (¬ x = -1 ∧ (∀ k, k < K → p k = true → ¬ nI (cb p k) = x) ∧ v = -1)
theorem pkR_k {K k : Nat} {x v : Int32} (hK : K ≤ 1000) (r : pkR p K x v) (hk : k < K) (pk : p k = true) (e : nI (cb p k) = x) : v = nI k := by
  have c1 := cb_le p k
  rcases r with r | ⟨k', y1, y2, y3, y4⟩ | r
  · rw [r.1] at e; exact absurd e (nI_m1 (by omega))
  · have c2 := cb_le p k'
    rw [y3, nI_eq (by omega) (by omega)] at e
    rcases Nat.lt_trichotomy k k' with z | z | z
    · have := cb_lt z pk; omega
    · rw [z]; exact y4
    · have := cb_lt z y2; omega
  · exact absurd e (r.2.1 k hk pk)
theorem pkR_e {K : Nat} {x v : Int32} (hK : K ≤ 1000) (r : pkR p K x v) (no : ∀ k, k < K → p k = true → ¬ nI (cb p k) = x) : (x = -1 → v = nI (cb p K)) ∧ (¬ x = -1 → v = -1) := by
  rcases r with r | ⟨k', y1, y2, y3, y4⟩ | r
  · exact ⟨fun _ => r.2, fun y => absurd r.1 y⟩
  · exact absurd y3.symm (no k' y1 y2)
  · exact ⟨fun y => absurd y r.1, fun _ => r.2.2⟩
theorem t6 (hs : Sh h) {t : Nat} (ht : t = 63 ∨ t = 65) : ah_k h t = 7 ∧ ah_k h (t + 1) = 14 ∧ ah_r h t 2 = some (t + 1) ∧ ah_n h (t + 1) = (if t = 63 then 72 else 60) := by
  rcases ht with rfl | rfl
  · exact ⟨sh_k hs 63 7 (by decide) rfl, sh_k hs 64 14 (by decide) rfl, hs.2.1 (63, 2, 64) (by decide), sh_n hs 64 72 (by decide) (by decide) rfl⟩
  · exact ⟨sh_k hs 65 7 (by decide) rfl, sh_k hs 66 14 (by decide) rfl, hs.2.1 (65, 2, 66) (by decide), sh_n hs 66 60 (by decide) (by decide) rfl⟩
theorem c_pick {Q : Option Value → ah_T → Prop} (hs : Sh h) {t K : Nat} {x : Int32} (ht : t = 63 ∨ t = 65) (hK : K ≤ if t = 63 then 72 else 60) (e1 : ah_i h t 1 = 1) (f : fdO p K t h) (hx : -1 ≤ x) (hq : ∀ v, pkR p K x v → Q (some (.int v)) h) : Mt mX7_pick [.ref t, .int x] h Q := by
  obtain ⟨k1, k2, k3, k4⟩ := t6 hs ht
  have c1 := cb_le p K
  have k72 : (if t = 63 then 72 else 60) ≤ 72 := by split <;> omega
  refine T_X7_pick hs t (t + 1) x k1 k2 k3 ⟨fun z => ?_, fun z => ?_⟩
  · refine c_get hs t (t + 1) x 0 k1 k2 k3 (n := cb p K) (w := 1) e1 f.1 (by rw [k4]; omega) (.inr (.inr rfl)) (by omega) ⟨_, rfl, hs, k1, k3, k2, hq _ ?_⟩
    by_cases c : 0 ≤ x ∧ x < nI (cb p K)
    · rw [if_pos ⟨c.1, c.2, by decide, by decide⟩]
      obtain ⟨j, hj, ej⟩ := nI_ltO (fun y => absurd c.1 (Int32.not_le.mpr y)) c.2 (by omega)
      obtain ⟨y, y1, y2, y3⟩ := cb_find K hj
      subst ej
      rw [nI_clamp (show j < 2 ^ 31 by omega), show j * 1 + Int32.toNatClampNeg 0 = j by rw [Nat.mul_one]; rfl]
      refine .inr (.inl ⟨y, y1, y2, by rw [y3], ?_⟩)
      rw [← y3]
      exact f.2 y y1 y2
    · rw [if_neg (fun y => c ⟨y.1, y.2.1⟩)]
      refine .inr (.inr ⟨z, fun k hk pk e => ?_, rfl⟩)
      have := cb_lt hk pk
      rw [← e] at c
      exact c ⟨nI_le (a := 0) (by omega) (by omega), nI_lt this (by omega)⟩
  · rw [f.1]
    exact hq _ (.inl ⟨z, rfl⟩)
theorem c_list {Q : Option Value → ah_T → Prop} (hs : Sh h) {t k : Nat} {x : Int32} (ht : t = 63 ∨ t = 65) (hk : k < if t = 63 then 72 else 60) (e1 : ah_i h t 1 = 1) (f : fdO p k t h) (e : x = nI k) (hp : p k = true) (hq : ∀ g, g = ah_si (ah_si h (t + 1) (cb p k) (nI k)) t 3 (nI (cb p k + 1)) → fdO p (k + 1) t g → Q none g) : Mt mX7_list [.ref t, .int x] h Q := by
  obtain ⟨k1, k2, k3, k4⟩ := t6 hs ht
  have c1 := cb_le p k
  have k72 : (if t = 63 then 72 else 60) ≤ 72 := by split <;> omega
  obtain ⟨R, eR⟩ : ∃ R, R = (if t = 63 then 72 else 60) := ⟨_, rfl⟩
  rw [← eR] at hk k72 k4
  subst e
  refine T_X7_list hs t (t + 1) _ k1 k2 k3 ⟨fun z => absurd e1 z, fun _ => ?_⟩
  rw [k4, f.1, nI_ofNat, nI_clamp (show cb p k < 2 ^ 31 by omega)]
  (first | refine ⟨fun _ => ?_, fun n_ => absurd (show ¬ nI R ≤ nI (cb p k) from nI_ge (by omega) (by omega)) n_⟩ | refine ⟨fun n_ => absurd (show ¬ nI R ≤ nI (cb p k) from nI_ge (by omega) (by omega)) n_, fun _ => ?_⟩ | refine ⟨fun y_ => absurd y_ (show ¬ nI R ≤ nI (cb p k) from nI_ge (by omega) (by omega)), fun _ => ?_⟩ | refine ⟨fun _ => ?_, fun y_ => absurd y_ (show ¬ nI R ≤ nI (cb p k) from nI_ge (by omega) (by omega))⟩)
  refine ⟨(vp_nI (by omega)).mpr (by omega), ?_⟩
  rintro h4 rfl h10 rfl
  refine hq _ (by rw [ah_i_sn (by omega), f.1, nI_1]) ⟨by rw [ah_i_ss, ah_i_sn (by omega), f.1, nI_1, cb_s1 hp], fun y hy py => ?_⟩
  rw [ah_i_sn (by omega)]
  by_cases z : y = k
  · rw [z, ah_i_ss]
  · have := cb_lt (show y < k by omega) py
    rw [ah_i_sn (by omega)]
    exact f.2 y (by omega) py
/-- the guest told explains the soot -/
noncomputable def stB (A : Nat → Nat) (k : Nat) : Bool := soB A (ndI A (k / 6) (k % 6)) (A 250)
def stX (A : Nat → Nat) (h : ah_T) : Prop := ah_i h 62 9 = 0 ∨ fdO (stB A) 72 63 h
theorem stX_fr (e : ∀ a j, Cst a j → ah_i g a j = ah_i h a j) (l : stX A h) : stX A g := by
  rcases l with l | l
  · exact .inl (by rw [e 62 9 (.inl ⟨rfl, rfl⟩)]; exact l)
  · exact .inr (fdO_fr (fun j => e 63 j (.inr (.inl rfl))) (fun j => e 64 j (.inr (.inr rfl))) l)
def KTp (KX : ah_T → Prop) : Prop := ∀ h, KX h → ah_i h 63 1 = 1 ∧ ah_i h 65 1 = 1
def Pst (a : Nat) : Prop := a = 62 ∨ a = 63 ∨ a = 64 ∨ a = 72 ∨ a = 73
theorem grF_m {P P' : Nat → Prop} (hp : ∀ a, P a → P' a) (f : grF P h g) : grF P' h g := ⟨f.1, f.2.1, fun a n m => f.2.2.1 a n (fun y => m (hp a y)), f.2.2.2⟩
theorem Pso_st : ∀ a, Pso a → Pst a := fun a y => by unfold Pso at y; unfold Pst; omega
theorem c_findStrangers {Q : Option Value → ah_T → Prop} (hs : Sh h) (t : cTw A h) (tm : tmN g0 A h) (d : cND A (nd0 A) 0 h) (so : cSo A h) (kt : ah_i h 63 1 = 1) (w10 : A 246 < 10) (st : stX A h)
    (hq : ∀ g, grF Pst h g → tmN g0 A g → cND A (nd0 A) 0 g → (∀ j, j ≠ 9 → j ≠ 17 → ah_i g 62 j = ah_i h 62 j) → (∀ j, j < 2 → ah_i g 63 j = ah_i h 63 j) → fdO (stB A) 72 63 g → Q none g) : Mt mX1_findStrangers [.ref 62] h Q := by
  refine T_X1_findStrangers hs ?_
  refine ⟨fun z => ?_, fun z => hq h (grF_r hs) tm d (fun _ _ _ => rfl) (fun _ _ => rfl) (st.resolve_left z)⟩
  intro h2 q2 h5 q5
  have f5 : grF Pst h h5 := by rw [q5, q2]; exact grF_s (.inr (.inl rfl)) (by omega) (grF_s (.inl rfl) (by omega) (grF_r hs))
  have e5 : ∀ a, a ≠ 62 → a ≠ 63 → eqc h h5 a := fun a n1 n2 => by rw [q5, q2]; exact eqc_si (eqc_si eqc_rfl n1) n2
  refine c_gather f5.1 (cSo_fr (fun a ha => (e5 a (by omega) (by omega)).1) so) (by omega) (fun h8 f8 k8 o8 => ⟨rfl, f8.1, ?_⟩)
  have e8 : ∀ a, a ≠ 62 → a ≠ 63 → a ≠ 72 → a ≠ 73 → eqc h h8 a := fun a n1 n2 n3 n4 => eqc_trans (e5 a n1 n2) (f8.2.2 a (fun y => by unfold Pso at y; omega))
  have f58 := grF_t f5 (gsF_gr Pso_st f8)
  have lp : ∀ (q k : Nat) (u : ah_T) (N : Nd) (sp : Nat), k + q = 72 → grF Pst h u → tmN g0 A u → cND A N sp u → N.q = A 248 → (sp = 0 ∨ sp = A 246 + 1) → (∀ j, j ≠ 9 → j ≠ 17 → ah_i u 62 j = ah_i h 62 j) → (∀ j, j < 2 → ah_i u 63 j = ah_i h 63 j) → gsO A (A 250) u → fdO (stB A) k 63 u → Wp mX1_findStrangers Q 0 0 27 [some (.ref 62), some (.int (nI k))] [] u := by
    intro q
    induction q with
    | zero =>
      intro k u N sp hk f tmu du nq ds k62 k63 go fo
      have e9 : k = 72 := by omega
      subst e9
      have tu : cTw A u := cTw_fr (fun a ha => (f.2.2.1 a (by omega) (fun y => by unfold Pst at y; omega)).1) t
      refine T_X1_findStrangers_27 f.1 _ ?_
      (first | refine ⟨fun _ => ?_, fun n_ => absurd (show 72 ≤ nI 72 from nI_le (a := 72) (by omega) (by omega)) n_⟩ | refine ⟨fun n_ => absurd (show 72 ≤ nI 72 from nI_le (a := 72) (by omega) (by omega)) n_, fun _ => ?_⟩ | refine ⟨fun y_ => absurd y_ (show 72 ≤ nI 72 from nI_le (a := 72) (by omega) (by omega)), fun _ => ?_⟩ | refine ⟨fun _ => ?_, fun y_ => absurd y_ (show 72 ≤ nI 72 from nI_le (a := 72) (by omega) (by omega))⟩)
      refine c_dismissN f.1 tu du (fun g c6 d6 _ => ⟨rfl, c6.1, ?_⟩)
      have e6 := fun a (n : 53 < a) => (c6.2.2 a (by omega)).1
      exact hq g (grF_t f (grF_e c6)) (tmO_n c6 tmu) d6 (fun j n1 n2 => by rw [e6 62 (by omega)]; exact k62 j n1 n2) (fun j hj => by rw [e6 63 (by omega)]; exact k63 j hj) (fdO_fr (e6 63 (by omega)) (e6 64 (by omega)) fo)
    | succ q ih =>
      intro k u N sp hk f tmu du nq ds k62 k63 go fo
      have tu : cTw A u := cTw_fr (fun a ha => (f.2.2.1 a (by omega) (fun y => by unfold Pst at y; omega)).1) t
      refine T_X1_findStrangers_27 f.1 _ ?_
      (first | refine ⟨fun _ => ?_, fun n_ => absurd (show ¬ 72 ≤ nI k from nI_ge (b := 72) (by omega) (by omega)) n_⟩ | refine ⟨fun n_ => absurd (show ¬ 72 ≤ nI k from nI_ge (b := 72) (by omega) (by omega)) n_, fun _ => ?_⟩ | refine ⟨fun y_ => absurd y_ (show ¬ 72 ≤ nI k from nI_ge (b := 72) (by omega) (by omega)), fun _ => ?_⟩ | refine ⟨fun _ => ?_, fun y_ => absurd y_ (show ¬ 72 ≤ nI k from nI_ge (b := 72) (by omega) (by omega))⟩)
      rw [show (6 : Int32) = nI 6 from rfl, nI_remI (by omega) (by omega), nI_divI (by omega) (by omega), nI_1]
      refine c_invite f.1 tu du rfl rfl (show k / 6 < 12 by omega) (show k % 6 < 6 by omega) w10 ds nq (fun v c1 d1 => ⟨rfl, c1.1, ?_⟩)
      have e1 := fun a (n : 53 < a) => (c1.2.2 a (by omega)).1
      refine c_isSoot c1.1 (cTw_n c1 tu) (tmO_n c1 tmu) d1 so.2.2.1 (Nat.le_succ _) (gsO_fr (fun a ha => e1 a (by omega)) (e1 62 (by omega) 17) go) (fun w f2 t2 tm2 d2 => ⟨_, rfl, f2.1, ?_⟩)
      have fw := grF_t f (grF_t (grF_e c1) (grF_y f2))
      have e2 : ∀ a, 53 < a → ∀ j, ah_i w a j = ah_i u a j := fun a n j => by rw [(f2.2.2.1 a (by omega)).1, e1 a n]
      have k62w : ∀ j, j ≠ 9 → j ≠ 17 → ah_i w 62 j = ah_i h 62 j := fun j n1 n2 => by rw [e2 62 (by omega)]; exact k62 j n1 n2
      have k63w : ∀ j, j < 2 → ah_i w 63 j = ah_i h 63 j := fun j hj => by rw [e2 63 (by omega)]; exact k63 j hj
      have gow := gsO_fr (g := w) (fun a ha => e2 a (by omega)) (e2 62 (by omega) 17) go
      have fow := fdO_fr (g := w) (e2 63 (by omega)) (e2 64 (by omega)) fo
      rw [bI_0]
      have eB : soB A (ndI A (k / 6) (k % 6)) (A 250) = stB A k := rfl
      rw [eB]
      refine ⟨fun y => ?_, fun y => ?_⟩
      · exact ih (k + 1) w _ _ (by omega) fw tm2 d2 rfl (.inr rfl) k62w k63w gow (fdO_no y fow)
      · have y1 : stB A k = true := by cases e : stB A k; exact absurd e y; rfl
        refine c_list f2.1 (.inl rfl) (by rw [if_pos rfl]; omega) (by rw [k63w 1 (by omega)]; exact kt) fow rfl y1 (fun x ex fx => ⟨rfl, by rw [ex]; exact f2.1, ?_⟩)
        have ee : ∀ a, a ≠ 63 → a ≠ 64 → eqc w x a := fun a n1 n2 => by rw [ex]; exact eqc_si (eqc_si eqc_rfl n2) n1
        refine ih (k + 1) x _ _ (by omega) (by rw [ex]; exact grF_s (.inr (.inl rfl)) (by omega) (grF_s (.inr (.inr (.inl rfl))) (by omega) fw)) (tmO_g (fun a ha => ee a (by omega) (by omega)) (by rw [ex]; rfl) tm2) (cND_fr (fun a ha => (ee a (by omega) (by omega)).1) (fun j _ => (ee 43 (by decide) (by decide)).1 j) d2) rfl (.inr rfl) (fun j n1 n2 => by rw [(ee 62 (by decide) (by decide)).1]; exact k62w j n1 n2) (fun j hj => ?_) (gsO_fr (fun a ha => (ee a (by omega) (by omega)).1) ((ee 62 (by decide) (by decide)).1 17) gow) fx
        rw [ex, ah_i_sn (by omega), ah_i_sn (by omega)]
        exact k63w j hj
  have tm8 : tmN g0 A h8 := tmO_g (fun a ha => e8 a (by omega) (by omega) (by omega) (by omega)) (by rw [f8.2.1, q5, q2]; rfl) tm
  exact lp 72 0 h8 (nd0 A) 0 (by omega) f58 tm8 (cND_fr (fun a ha => (e8 a (by omega) (by omega) (by omega) (by omega)).1) (fun j _ => (e8 43 (by decide) (by decide) (by decide) (by decide)).1 j) d) rfl (.inl rfl) (fun j n1 n2 => by rw [k8 j n2, q5, q2, ah_i_sn (by omega), ah_i_sn (by omega)]) (fun j hj => by rw [(f8.2.2 63 (by unfold Pso; omega)).1, q5, q2, ah_i_sn (by omega), ah_i_sn (by omega)]) o8 ⟨by rw [(f8.2.2 63 (by unfold Pso; omega)).1, q5, ah_i_ss]; rfl, fun x y => absurd y (by omega)⟩
end ST
