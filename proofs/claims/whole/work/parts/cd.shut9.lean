/-! ===== shutters: the class finds peace ===== -/
/-- all are at peace, no way is shuttered twice -/
def gS (A : Nat → Nat) (S : Nat) : Prop := pcS A S ∧ ∀ i, i < A 245 → S.testBit i = true → A (3 * i + 2) ≠ 1
def tsO (st : Nat × Nat) (h : ah_T) : Prop := ah_i h 74 4 = nI st.2 ∧ (st.1 ≠ 0 → ah_i h 74 3 = nI (st.1 - 1)) ∧ (st.1 = 0 ↔ st.2 = 0)
def ppF (h g : ah_T) : Prop := grF (fun a => a = 74 ∨ P7 a) h g ∧ ∀ j, j ≠ 3 → j ≠ 4 → ah_i g 74 j = ah_i h 74 j
section FP
variable {A : Nat → Nat} {h g u : ah_T} {S w m l o k v a b n g0 x s t : Nat} {p : Nat → Bool} {st : Nat × Nat}
theorem ppF_r (hs : Sh h) : ppF h h := ⟨grF_r hs, fun _ _ _ => rfl⟩
theorem ppF_t {h1 : ah_T} (p : ppF h g) (q : ppF g h1) : ppF h h1 := ⟨grF_t p.1 q.1, fun j n1 n2 => by rw [q.2 j n1 n2, p.2 j n1 n2]⟩
theorem ppF_7 (f : grF P7 h g) : ppF h g := ⟨⟨f.1, f.2.1, fun a n m => f.2.2.1 a n (fun y => m (.inr y)), f.2.2.2⟩, fun j _ _ => (f.2.2.1 74 (by omega) (by show ¬ (74 = 79 ∨ 74 = 80 ∨ 74 = 81); omega)).1 j⟩
theorem ppF_s {j : Nat} {y : Int32} (hj : j = 3 ∨ j = 4) (p : ppF h g) : ppF h (ah_si g 74 j y) := ⟨grF_s (.inl rfl) (by decide) p.1, fun i n1 n2 => by rw [ah_i_sn (by omega)]; exact p.2 i n1 n2⟩
theorem cor_74 {j : Nat} {y : Int32} (c : cor g0 A h) (hs : Sh h) : cor g0 A (ah_si h 74 j y) := cor_g (fun a ha => eqc_si eqc_rfl (by omega)) (.inr trivial) (sh_si hs) (ah_x_si _ _ _ _) c
/-- the class's answer to a choice -/
theorem pc_bd (wl : wfL A) (wn : wfN A) (wf : wfW A) (q : qrO A h) (c : cor g0 A h) : (∀ a b, a < 12 → b < 12 → ¬ bdS A S h a b) ↔ pcS A S := by
  rw [pcS_q wl wn]
  have key : ∀ a b, a < 12 → b < 12 → (bdS A S h a b ↔ cfl A (nd0 A) a b (sgN (aS A S) a b)) := by
    intro a b ha hb
    have po := poS_a (b := b) wf ha S
    have i13 := poS_12 (c.2.2.2.1.2.2.2.1 a b ha hb) po
    unfold bdS
    rw [q a b _ ha hb (by omega)]
    exact ⟨fun y => y.2, fun y => ⟨po, y⟩⟩
  exact ⟨fun y a b ha hb z => y a b ha hb ((key a b ha hb).mpr z), fun y a b ha hb z => y a b ha hb ((key a b ha hb).mp z)⟩
theorem c_isHopeless {Q : Option Value → ah_T → Prop} (hs : Sh h) (c : cor g0 A h) (wl : wfL A) (wn : wfN A) (wf : wfW A) (q : qrO A h) (hq : ∀ v, (¬ v = 0 → ∀ S, ¬ pcS A S) → Q (some (.int v)) h) : Mt mX4_isHopeless [.ref 74] h Q := by
  have n79 := sh_n hs 79 144 (by decide) (by decide) rfl
  refine T_X4_isHopeless hs ?_
  have lp : ∀ (r k : Nat), k + r = 144 → Wp mX4_isHopeless Q 0 0 2 [some (.ref 74), some (.int (nI k))] [] h := by
    intro r
    induction r with
    | zero =>
      intro k hk
      have e9 : k = 144 := by omega
      subst e9
      refine T_X4_isHopeless_2 hs _ ?_
      rw [n79]
      (first | refine ⟨fun _ => ?_, fun n_ => absurd (show Int32.ofNat 144 ≤ nI 144 by decide) n_⟩ | refine ⟨fun n_ => absurd (show Int32.ofNat 144 ≤ nI 144 by decide) n_, fun _ => ?_⟩ | refine ⟨fun y_ => absurd y_ (show Int32.ofNat 144 ≤ nI 144 by decide), fun _ => ?_⟩ | refine ⟨fun _ => ?_, fun y_ => absurd y_ (show Int32.ofNat 144 ≤ nI 144 by decide)⟩)
      exact hq 0 (fun y => absurd rfl y)
    | succ r ih =>
      intro k hk
      have hk2 : k < 144 := by omega
      have ek : k = 12 * (k / 12) + k % 12 := by omega
      have vps := v_ps hs (show k / 12 < 12 by omega) (show k % 12 < 12 by omega)
      rw [← ek] at vps
      refine T_X4_isHopeless_2 hs _ ?_
      rw [n79]
      (first | refine ⟨fun _ => ?_, fun n_ => absurd (show ¬ Int32.ofNat 144 ≤ nI k from nI_ge (b := 144) (by omega) (by omega)) n_⟩ | refine ⟨fun n_ => absurd (show ¬ Int32.ofNat 144 ≤ nI k from nI_ge (b := 144) (by omega) (by omega)) n_, fun _ => ?_⟩ | refine ⟨fun y_ => absurd y_ (show ¬ Int32.ofNat 144 ≤ nI k from nI_ge (b := 144) (by omega) (by omega)), fun _ => ?_⟩ | refine ⟨fun _ => ?_, fun y_ => absurd y_ (show ¬ Int32.ofNat 144 ≤ nI k from nI_ge (b := 144) (by omega) (by omega))⟩)
      rw [nI_1 k, nI_clamp (show k < 2 ^ 31 by omega)]
      have vk : vp_in (nI k) 144 := (vp_nI (by omega)).mpr hk2
      refine ⟨vk, fun _ => ih (k + 1) (by omega), fun z => ⟨vk, vps, fun _ => ih (k + 1) (by omega), fun y => hq 1 (fun _ S => ?_)⟩⟩
      rw [pcS_q wl wn]
      intro no
      have ha : k / 12 < 12 := by omega
      have hb : k % 12 < 12 := by omega
      have po := poS_a (b := k % 12) wf ha S
      have dd := c.2.2.2.1.2.2.2.1 _ _ ha hb
      have i13 := poS_12 dd po
      have pb := (f_ps dd ha hb _ (show sgN (aS A S) (k / 12) (k % 12) < 32 by omega)).mpr po
      rw [← ek, ← y] at pb
      have := (q _ _ _ ha hb (show sgN (aS A S) (k / 12) (k % 12) < 32 by omega)).mp (by rw [← ek]; exact pb)
      exact no _ _ ha hb this.2
  exact lp 144 0 rfl
theorem foS_ext {g g' : Nat → Prop} : ∀ (L : List Nat) (st : Nat × Nat), (∀ x, x ∈ L → (g x ↔ g' x)) → foS g L st = foS g' L st
  | [], _, _ => rfl
  | x :: R, st, h => by
    by_cases z : g x
    · rw [foS_t z, foS_t ((h x (List.mem_cons_self ..)).mp z)]
      exact foS_ext R _ (fun y hy => h y (List.mem_cons_of_mem _ hy))
    · rw [foS_f z, foS_f (fun y => z ((h x (List.mem_cons_self ..)).mpr y))]
      exact foS_ext R _ (fun y hy => h y (List.mem_cons_of_mem _ hy))
theorem wN_b (p : Nat → Bool) (x : Nat) : ∀ k i, (wN p x k).testBit i = true → i < k ∧ p i = true
  | 0, i, h => by
    have : wN p x 0 = 0 := rfl
    rw [this, Nat.zero_testBit] at h
    exact absurd h (by decide)
  | k + 1, i, h => by
    have e : wN p x (k + 1) = wN p x k + (if p k = true ∧ x.testBit (cb p k) = true then 2 ^ k else 0) := rfl
    rw [e] at h
    by_cases z : p k = true ∧ x.testBit (cb p k) = true
    · rw [if_pos z, ← or_p2 (wN_lt p x k), Nat.testBit_or, Nat.testBit_two_pow, Bool.or_eq_true, decide_eq_true_eq] at h
      rcases h with h | h
      · obtain ⟨h1, h2⟩ := wN_b p x k i h
        exact ⟨by omega, h2⟩
      · subst h
        exact ⟨by omega, z.1⟩
    · rw [if_neg z, Nat.add_zero] at h
      obtain ⟨h1, h2⟩ := wN_b p x k i h
      exact ⟨by omega, h2⟩
/-- as the class goes through choices -/
theorem foS_cl (ht : ∀ i, sS t i = true ↔ i < A 245 ∧ A (3 * i + 2) ≠ 1) (h20 : A 245 ≤ 20) (s : Nat) : foS (gS A) (cmL s (A 245)) (0, 0) = foS (pcS A) ((cmL s (hN t)).map (fun x => wN (sS t) x 20)) (0, 0) := by
  have top : ∀ x, wN (sS t) x 20 = wN (sS t) x (A 245) ∧ cb (sS t) 20 = cb (sS t) (A 245) := fun x => by
    have := wN_top (p := sS t) (x := x) (n := A 245) (K := 0) (fun i hi => by
      cases e : sS t i
      · rfl
      · have := (ht i).mp e
        omega) (20 - A 245)
    rw [show A 245 + (20 - A 245) = 20 by omega] at this
    exact this
  have un := foS_un (g := gS A) (sS t) (A 245) s id (0, 0) (fun x _ gx i hi tb => (ht i).mpr ⟨hi, gx.2 i hi tb⟩)
  rw [List.map_id] at un
  rw [un, ← (top 0).2]
  refine Eq.trans (foS_map2 _ _ (fun x _ => (show wN (sS t) x (A 245) = wN (sS t) x 20 from (top x).1.symm))) ?_
  refine foS_ext _ _ (fun y hy => ?_)
  obtain ⟨x, _, rfl⟩ := List.mem_map.mp hy
  exact ⟨fun z => z.1, fun z => ⟨z, fun i hi tb => ((ht i).mp (wN_b _ _ _ _ tb).2).2⟩⟩
theorem c_tryShutters {Q : Option Value → ah_T → Prop} {x1 x2 : Int32} (hs : Sh h) (c : cor g0 A h) (wl : wfL A) (wn : wfN A) (wf : wfW A) (q : qrO A h) (e1 : x1 = nI s) (e2 : x2 = nI t) (hsz : s < 4) (ht : t < 2 ^ 20) (hsu : s ≤ hN t) (ts : tsO (0, 0) h)
    (hq : ∀ g, ppF h g → cor g0 A g → (∀ j, ah_i g 79 j = ah_i h 79 j) → tsO (foS (pcS A) ((cmL s (hN t)).map (fun x => wN (sS t) x 20)) (0, 0)) g → Q none g) : Mt mX4_tryShutters [.ref 74, .int x1, .int x2] h Q := by
  subst e1 e2
  have n20 := hN_le t
  obtain ⟨k1, k2, k3⟩ := ck_all (hN t) (by omega) s hsz hsu
  have lp : ∀ (R : List Nat) (x t5 : Nat) (u : ah_T) (st : Nat × Nat), ckG (nI (2 ^ hN t)) (x :: R) = true → (∀ y, y ∈ x :: R → y < 2 ^ hN t) → t5 + R.length < 2000 → st.2 ≤ t5 → ppF h u → cor g0 A u → (∀ j, ah_i u 79 j = ah_i h 79 j) → tsO st u → (∀ g, ppF h g → cor g0 A g → (∀ j, ah_i g 79 j = ah_i h 79 j) → tsO (foS (pcS A) ((x :: R).map (fun x => wN (sS t) x 20)) st) g → Q none g) → Wp mX4_tryShutters Q 0 0 17 [some (.ref 74), none, some (.int (nI t)), some (.int (nI (2 ^ hN t))), some (.int (nI x)), some (.int (nI t5)), none, none, none] [] u := by
    intro R
    induction R with
    | nil =>
      intro x t5 u st ck lt h5 hst fu cu e79 tu nx
      have xl := lt x (List.mem_cons_self ..)
      have p20 : 2 ^ hN t ≤ 2 ^ 20 := Nat.pow_le_pow_right (by decide) n20
      have h5' : t5 < 2000 := by have : t5 + 0 < 2000 := h5; omega
      refine T_X4_tryShutters_17 fu.1.1 _ _ _ _ ?_
      (first | refine ⟨fun _ => ?_, fun n_ => absurd (show ¬ (1048576 : Int32) ≤ nI t5 from nI_ge (b := 1048576) (by omega) (by omega)) n_⟩ | refine ⟨fun n_ => absurd (show ¬ (1048576 : Int32) ≤ nI t5 from nI_ge (b := 1048576) (by omega) (by omega)) n_, fun _ => ?_⟩ | refine ⟨fun y_ => absurd y_ (show ¬ (1048576 : Int32) ≤ nI t5 from nI_ge (b := 1048576) (by omega) (by omega)), fun _ => ?_⟩ | refine ⟨fun _ => ?_, fun y_ => absurd y_ (show ¬ (1048576 : Int32) ≤ nI t5 from nI_ge (b := 1048576) (by omega) (by omega))⟩)
      (first | refine ⟨fun _ => ?_, fun n_ => absurd (show ¬ nI (2 ^ hN t) ≤ nI x from nI_ge xl (by omega)) n_⟩ | refine ⟨fun n_ => absurd (show ¬ nI (2 ^ hN t) ≤ nI x from nI_ge xl (by omega)) n_, fun _ => ?_⟩ | refine ⟨fun y_ => absurd y_ (show ¬ nI (2 ^ hN t) ≤ nI x from nI_ge xl (by omega)), fun _ => ?_⟩ | refine ⟨fun _ => ?_, fun y_ => absurd y_ (show ¬ nI (2 ^ hN t) ≤ nI x from nI_ge xl (by omega))⟩)
      refine c_waysOf fu.1.1 (p := sS t) rfl (fun i hi => nb (by omega)) ⟨_, rfl, fu.1.1, ?_⟩
      refine c_isPeaceful fu.1.1 cu wf rfl (wN_lt _ _ 20) (fun w vp fw iv => ⟨_, rfl, fw.1, ?_⟩)
      have cw := cor_pf fw cu
      have f2 : ppF h w := ppF_t fu (ppF_7 (grF_pf fw))
      have w79 : ∀ j, ah_i w 79 j = ah_i h 79 j := fun j => by rw [(fw.2.2 79 (by decide) (by decide)).1, e79]
      have w74 : ∀ j, ah_i w 74 j = ah_i u 74 j := (fw.2.2 74 (by decide) (by decide)).1
      have qu : qrO A u := fun a b i ha hb hi => by rw [e79]; exact q a b i ha hb hi
      have iv2 := iv.trans (pc_bd wl wn wf qu cu)
      obtain ⟨t1, t2, t3⟩ := tu
      -- behind the last
      have last : ∀ (g : ah_T), ppF h g → cor g0 A g → (∀ j, ah_i g 79 j = ah_i h 79 j) → tsO (foS (pcS A) ([x].map (fun x => wN (sS t) x 20)) st) g → (¬ (nI x &&& (-(nI x))) = 0 → (¬ (nI x &&& (-(nI x))) = 0) ∧ Wp mX4_tryShutters Q 0 0 17 [some (.ref 74), none, some (.int (nI t)), some (.int (nI (2 ^ hN t))), some (.int (nxG (nI x))), some (.int (nI t5 + 1)), none, none, none] [] g) ∧ ((nI x &&& (-(nI x))) = 0 → Q none g) := by
        intro g fg cg g79 tg
        refine ⟨fun z => ⟨z, ?_⟩, fun _ => nx g fg cg g79 tg⟩
        have ge : nI (2 ^ hN t) ≤ nxG (nI x) := by
          unfold ckG at ck
          rw [Bool.and_eq_true, Bool.or_eq_true, decide_eq_true_eq, decide_eq_true_eq] at ck
          exact ck.1.resolve_left z
        refine T_X4_tryShutters_17 fg.1.1 _ _ _ _ ⟨fun _ => nx g fg cg g79 tg, fun _ => ?_⟩
        (first | refine ⟨fun _ => ?_, fun n_ => absurd (ge) n_⟩ | refine ⟨fun n_ => absurd (ge) n_, fun _ => ?_⟩ | refine ⟨fun y_ => absurd y_ (ge), fun _ => ?_⟩ | refine ⟨fun _ => ?_, fun y_ => absurd y_ (ge)⟩)
        exact nx g fg cg g79 tg
      refine ⟨fun z => ?_, fun z => ⟨fun y => ?_, fun y => ?_⟩⟩
      · have no : ¬ pcS A (wN (sS t) x 20) := fun y => (iv2.mpr y) z
        refine last w f2 cw w79 ?_
        rw [List.map_singleton, foS_f no]
        exact ⟨by rw [w74]; exact t1, fun y => by rw [w74]; exact t2 y, t3⟩
      · rintro h13 rfl
        have s2 : ¬ st.2 = 0 := fun y2 => y (by rw [w74, t1, y2]; rfl)
        refine last _ (ppF_s (by omega) f2) (cor_74 cw fw.1) (fun j => by rw [ah_i_sn (by omega)]; exact w79 j) ?_
        rw [List.map_singleton, foS_t (iv2.mp z), if_neg (fun y2 => s2 (t3.mp y2))]
        refine ⟨by rw [ah_i_ss, w74, t1, nI_1]; rfl, fun y2 => ?_, ⟨fun y2 => absurd (t3.mp y2) s2, fun y2 => absurd y2 (Nat.succ_ne_zero _)⟩⟩
        rw [ah_i_sn (by omega), w74]
        exact t2 y2
      · rintro h18 rfl h21 rfl
        have s2 : st.2 = 0 := by
          rw [w74, t1] at y
          exact (nI_eq (b := 0) (by omega) (by omega)).mp y
        refine last _ (ppF_s (by omega) (ppF_s (by omega) f2)) (cor_74 (cor_74 cw fw.1) (sh_si fw.1)) (fun j => by rw [ah_i_sn (by omega), ah_i_sn (by omega)]; exact w79 j) ?_
        rw [List.map_singleton, foS_t (iv2.mp z), if_pos (t3.mpr s2)]
        refine ⟨by rw [ah_i_ss, ah_i_sn (by omega), w74, t1, nI_1]; rfl, fun _ => ?_, ⟨fun y2 => absurd y2 (Nat.succ_ne_zero _), fun y2 => absurd y2 (Nat.succ_ne_zero _)⟩⟩
        rw [ah_i_sn (by omega), ah_i_ss]; rfl
    | cons x' R ih =>
      intro x t5 u st ck lt h5 hst fu cu e79 tu nx
      have xl := lt x (List.mem_cons_self ..)
      have p20 : 2 ^ hN t ≤ 2 ^ 20 := Nat.pow_le_pow_right (by decide) n20
      have h5' : t5 + (R.length + 1) < 2000 := h5
      unfold ckG at ck
      rw [Bool.and_eq_true, Bool.and_eq_true, decide_eq_true_eq, decide_eq_true_eq] at ck
      obtain ⟨⟨ck1, ck2⟩, ck3⟩ := ck
      refine T_X4_tryShutters_17 fu.1.1 _ _ _ _ ?_
      (first | refine ⟨fun _ => ?_, fun n_ => absurd (show ¬ (1048576 : Int32) ≤ nI t5 from nI_ge (b := 1048576) (by omega) (by omega)) n_⟩ | refine ⟨fun n_ => absurd (show ¬ (1048576 : Int32) ≤ nI t5 from nI_ge (b := 1048576) (by omega) (by omega)) n_, fun _ => ?_⟩ | refine ⟨fun y_ => absurd y_ (show ¬ (1048576 : Int32) ≤ nI t5 from nI_ge (b := 1048576) (by omega) (by omega)), fun _ => ?_⟩ | refine ⟨fun _ => ?_, fun y_ => absurd y_ (show ¬ (1048576 : Int32) ≤ nI t5 from nI_ge (b := 1048576) (by omega) (by omega))⟩)
      (first | refine ⟨fun _ => ?_, fun n_ => absurd (show ¬ nI (2 ^ hN t) ≤ nI x from nI_ge xl (by omega)) n_⟩ | refine ⟨fun n_ => absurd (show ¬ nI (2 ^ hN t) ≤ nI x from nI_ge xl (by omega)) n_, fun _ => ?_⟩ | refine ⟨fun y_ => absurd y_ (show ¬ nI (2 ^ hN t) ≤ nI x from nI_ge xl (by omega)), fun _ => ?_⟩ | refine ⟨fun _ => ?_, fun y_ => absurd y_ (show ¬ nI (2 ^ hN t) ≤ nI x from nI_ge xl (by omega))⟩)
      refine c_waysOf fu.1.1 (p := sS t) rfl (fun i hi => nb (by omega)) ⟨_, rfl, fu.1.1, ?_⟩
      refine c_isPeaceful fu.1.1 cu wf rfl (wN_lt _ _ 20) (fun w vp fw iv => ⟨_, rfl, fw.1, ?_⟩)
      have cw := cor_pf fw cu
      have f2 : ppF h w := ppF_t fu (ppF_7 (grF_pf fw))
      have w79 : ∀ j, ah_i w 79 j = ah_i h 79 j := fun j => by rw [(fw.2.2 79 (by decide) (by decide)).1, e79]
      have w74 : ∀ j, ah_i w 74 j = ah_i u 74 j := (fw.2.2 74 (by decide) (by decide)).1
      have qu : qrO A u := fun a b i ha hb hi => by rw [e79]; exact q a b i ha hb hi
      have iv2 := iv.trans (pc_bd wl wn wf qu cu)
      obtain ⟨t1, t2, t3⟩ := tu
      have go : ∀ (g : ah_T) (st' : Nat × Nat), ppF h g → cor g0 A g → (∀ j, ah_i g 79 j = ah_i h 79 j) → tsO st' g → st'.2 ≤ t5 + 1 → foS (pcS A) ((x :: x' :: R).map (fun x => wN (sS t) x 20)) st = foS (pcS A) ((x' :: R).map (fun x => wN (sS t) x 20)) st' → (¬ (nI x &&& (-(nI x))) = 0 → (¬ (nI x &&& (-(nI x))) = 0) ∧ Wp mX4_tryShutters Q 0 0 17 [some (.ref 74), none, some (.int (nI t)), some (.int (nI (2 ^ hN t))), some (.int (nxG (nI x))), some (.int (nI t5 + 1)), none, none, none] [] g) ∧ ((nI x &&& (-(nI x))) = 0 → Q none g) := by
        intro g st' fg cg g79 tg le2 e
        refine ⟨fun z => ⟨z, ?_⟩, fun z => absurd z ck1⟩
        rw [ck2, nI_1]
        exact ih x' (t5 + 1) g st' ck3 (fun y hy => lt y (List.mem_cons_of_mem _ hy)) (by omega) le2 fg cg g79 tg (fun g2 f2 c2 q2 t2 => nx g2 f2 c2 q2 (by rw [e]; exact t2))
      refine ⟨fun z => ?_, fun z => ⟨fun y => ?_, fun y => ?_⟩⟩
      · have no : ¬ pcS A (wN (sS t) x 20) := fun y => (iv2.mpr y) z
        exact go w st f2 cw w79 ⟨by rw [w74]; exact t1, fun y => by rw [w74]; exact t2 y, t3⟩ (by omega) (by rw [List.map_cons, foS_f no])
      · rintro h13 rfl
        have s2 : ¬ st.2 = 0 := fun y2 => y (by rw [w74, t1, y2]; rfl)
        refine go _ (st.1, st.2 + 1) (ppF_s (by omega) f2) (cor_74 cw fw.1) (fun j => by rw [ah_i_sn (by omega)]; exact w79 j) ⟨by rw [ah_i_ss, w74, t1, nI_1], fun y2 => ?_, ⟨fun y2 => absurd (t3.mp y2) s2, fun y2 => absurd y2 (Nat.succ_ne_zero _)⟩⟩ (by show st.2 + 1 ≤ t5 + 1; omega) (by rw [List.map_cons, foS_t (iv2.mp z), if_neg (fun y2 => s2 (t3.mp y2))])
        rw [ah_i_sn (by omega), w74]
        exact t2 y2
      · rintro h18 rfl h21 rfl
        have s2 : st.2 = 0 := by
          rw [w74, t1] at y
          exact (nI_eq (b := 0) (by omega) (by omega)).mp y
        refine go _ (wN (sS t) x 20 + 1, st.2 + 1) (ppF_s (by omega) (ppF_s (by omega) f2)) (cor_74 (cor_74 cw fw.1) (sh_si fw.1)) (fun j => by rw [ah_i_sn (by omega), ah_i_sn (by omega)]; exact w79 j) ⟨by rw [ah_i_ss, ah_i_sn (by omega), w74, t1, nI_1], fun _ => ?_, ⟨fun y2 => absurd y2 (Nat.succ_ne_zero _), fun y2 => absurd y2 (Nat.succ_ne_zero _)⟩⟩ (by show st.2 + 1 ≤ t5 + 1; omega) (by rw [List.map_cons, foS_t (iv2.mp z), if_pos (t3.mpr s2)])
        rw [ah_i_sn (by omega), ah_i_ss]; rfl
  refine T_X4_tryShutters hs _ _ ?_
  rw [bc_20 ht]
  have e3 : (1 : Int32) <<< (nI (cb (fun i => t.testBit i) 20) &&& 31) = nI (2 ^ hN t) := nI_1sh (show hN t < 32 by omega)
  rw [e3, nI_full (show s < 31 by omega)]
  obtain ⟨L, eL⟩ : ∃ L, L = cmL s (hN t) := ⟨_, rfl⟩
  rw [← eL] at k1 k2 k3 hq
  have lt : ∀ y, y ∈ L → y < 2 ^ hN t := fun y hy => cm_lt _ _ _ (by rw [eL] at hy; exact hy)
  cases L with
  | nil => exact absurd k2 (by intro y; cases y)
  | cons x R =>
    have ex : x = 2 ^ s - 1 := Option.some.inj k2
    rw [← ex]
    exact lp R x 0 h (0, 0) k1 lt (by have : R.length + 1 ≤ 1140 := k3; omega) (Nat.le_refl _) (ppF_r hs) c (fun _ => rfl) ts hq
end FP
