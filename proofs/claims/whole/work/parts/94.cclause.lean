/-! ===== the class's reader of clauses ===== -/
def up32 (T : Nat → Int32) (j : Nat) (x : Int32) : Nat → Int32 := fun i => if i = j then x else T i
theorem up32_s (T : Nat → Int32) (j : Nat) (x : Int32) : up32 T j x j = x := if_pos rfl
theorem up32_n {T : Nat → Int32} {j i : Nat} {x : Int32} (h : i ≠ j) : up32 T j x i = T i := if_neg h
/-- a sum of a clause: where its code begins -/
def cS1 (x : Int32) (c : Nat → Nat) (q : Nat) (o : Option Mg) : Prop := match o with
  | none => x = -1
  | some m => ∃ p p' nd, x = nI p ∧ p' < q ∧ nd ≤ 50 ∧ impS c p p' m nd ∧ c p' = 0
def cT1 (x : Int32) (c : Nat → Nat) (q : Nat) (o : Option Tg) : Prop := match o with
  | none => x = -1
  | some m => ∃ p p' nd, x = nI p ∧ p' < q ∧ nd ≤ 50 ∧ impT c p p' m nd ∧ c p' = 0
def dpS (o : Option Mg) (wd : Int32) : Prop := ∀ m, o = some m → dep m wd
def dpT (o : Option Tg) (wd : Int32) : Prop := ∀ m, o = some m → depT m wd
/-- more code, more words -/
def gX (q : Nat) (c : Nat → Nat) (wd : Int32) (q' : Nat) (c' : Nat → Nat) (wd' : Int32) : Prop := q ≤ q' ∧ (∀ k, k < q → c' k = c k) ∧ ∀ j, j < 32 → bt wd j = true → bt wd' j = true
theorem gX_r {q : Nat} {c : Nat → Nat} {wd : Int32} : gX q c wd q c wd := ⟨Nat.le_refl _, fun _ _ => rfl, fun _ _ h => h⟩
theorem gX_t {q q1 q2 : Nat} {c c1 c2 : Nat → Nat} {wd w1 w2 : Int32} (a : gX q c wd q1 c1 w1) (b : gX q1 c1 w1 q2 c2 w2) : gX q c wd q2 c2 w2 :=
  ⟨Nat.le_trans a.1 b.1, fun k hk => by rw [b.2.1 k (by have := a.1; omega), a.2.1 k hk], fun j hj h => b.2.2 j hj (a.2.2 j hj h)⟩
theorem cS1_g {x : Int32} {q q' : Nat} {c c' : Nat → Nat} {wd wd' : Int32} {o : Option Mg} (g : gX q c wd q' c' wd') (s : cS1 x c q o) : cS1 x c' q' o := by
  cases o with
  | none => exact s
  | some m =>
    obtain ⟨p, p', nd, h1, h2, h3, h4, h5⟩ := s
    have := g.1
    exact ⟨p, p', nd, h1, by omega, h3, impS_ext (fun k _ hk => g.2.1 k (by omega)) h4, by rw [g.2.1 p' h2]; exact h5⟩
theorem cT1_g {x : Int32} {q q' : Nat} {c c' : Nat → Nat} {wd wd' : Int32} {o : Option Tg} (g : gX q c wd q' c' wd') (s : cT1 x c q o) : cT1 x c' q' o := by
  cases o with
  | none => exact s
  | some m =>
    obtain ⟨p, p', nd, h1, h2, h3, h4, h5⟩ := s
    have := g.1
    exact ⟨p, p', nd, h1, by omega, h3, impT_ext (fun k _ hk => g.2.1 k (by omega)) h4, by rw [g.2.1 p' h2]; exact h5⟩
section CL
variable {cs vs : Nat → Nat} {isV : Nat → Bool} {n : Nat} {h0 h : ah_T}
/-- what the reader may change at all -/
def rFr (h0 h : ah_T) : Prop := Sh h ∧ ah_x h = ah_x h0 ∧ (∀ a, a ≠ 20 → a ≠ 23 → a ≠ 24 → a ≠ 25 → eqc h0 h a) ∧ ah_i h 20 9 = ah_i h0 20 9
theorem rFr_rfl (hs : Sh h) : rFr h h := ⟨hs, rfl, fun _ _ _ _ _ => eqc_rfl, rfl⟩
theorem rFr_c {h' : ah_T} (r : rFr h0 h) (c : cFr h h') : rFr h0 h' := ⟨c.1, by rw [c.2.1, r.2.1], fun a n1 n2 n3 n4 => eqc_trans (r.2.2.1 a n1 n2 n3 n4) (c.2.2.1 a n1 n2), by rw [c.2.2.2.1 9 (by decide), r.2.2.2]⟩
theorem rFr_set {a j : Nat} {x : Int32} (r : rFr h0 h) (ha : a = 24 ∨ a = 25 ∨ a = 23 ∨ (a = 20 ∧ j ≠ 9)) : rFr h0 (ah_si h a j x) :=
  ⟨sh_si r.1, by rw [ah_x_si, r.2.1], fun b n1 n2 n3 n4 => eqc_si (r.2.2.1 b n1 n2 n3 n4) (by omega), by rw [ah_i_sn (by omega)]; exact r.2.2.2⟩
theorem Ck_r (r : rFr h0 h) (t : Ck cs vs isV n h0) : Ck cs vs isV n h := by
  obtain ⟨t1, t2, t3, t4, t5, t6, t7⟩ := t
  have e21 := (r.2.2.1 21 (by decide) (by decide) (by decide) (by decide)).1
  exact ⟨t1, t2, t3, fun k hk => by rw [e21]; exact t4 k hk, by rw [e21]; exact t5, t6, fun c h1 h2 => by rw [r.2.2.2]; exact t7 c h1 h2⟩
/-- the reader's state: where it stands, its code, its clauses, words used -/
def rS (h0 h : ah_T) (i q lv : Nat) (c : Nat → Nat) (wd : Int32) (T U : Nat → Int32) : Prop :=
  rFr h0 h ∧ ah_i h 20 6 = nI i ∧ ah_i h 20 7 = nI q ∧ ah_i h 20 8 = nI lv ∧ ah_i h 20 10 = wd ∧ (∀ k, k < q → ah_i h 23 k = nI (c k) ∧ c k < 65536) ∧ (∀ j, ah_i h 24 j = T j) ∧ ∀ j, ah_i h 25 j = U j
def rFl (h0 h : ah_T) (p : Nat) : Prop := rFr h0 h ∧ ah_i h 20 6 = nI p
theorem rS_c {i q lv i' q' lv' : Nat} {c c' : Nat → Nat} {wd wd' : Int32} {T U : Nat → Int32} {h' : ah_T} (r : rS h0 h i q lv c wd T U) (s : cS h h' i' q' lv' c' wd') : rS h0 h' i' q' lv' c' wd' T U := by
  obtain ⟨r1, r2, r3, r4, r5, r6, r7, r8⟩ := r
  obtain ⟨s1, s2, s3, s4, s5, s6⟩ := s
  exact ⟨rFr_c r1 s1, s2, s3, s4, s5, s6, fun j => by rw [(s1.2.2.1 24 (by decide) (by decide)).1]; exact r7 j, fun j => by rw [(s1.2.2.1 25 (by decide) (by decide)).1]; exact r8 j⟩
theorem rS_cS {i q lv : Nat} {c : Nat → Nat} {wd : Int32} {T U : Nat → Int32} (r : rS h0 h i q lv c wd T U) : cS h h i q lv c wd := by
  obtain ⟨r1, r2, r3, r4, r5, r6, r7, r8⟩ := r
  exact ⟨⟨r1.1, rfl, fun _ _ _ => eqc_rfl, fun _ _ => rfl, fun _ => rfl, fun _ => rfl, rfl, rfl⟩, r2, r3, r4, r5, r6⟩
theorem rS_24 {i q lv j : Nat} {c : Nat → Nat} {wd x : Int32} {T U : Nat → Int32} (r : rS h0 h i q lv c wd T U) : rS h0 (ah_si h 24 j x) i q lv c wd (up32 T j x) U := by
  obtain ⟨r1, r2, r3, r4, r5, r6, r7, r8⟩ := r
  refine ⟨rFr_set r1 (.inl rfl), by rw [ah_i_sn (by omega)]; exact r2, by rw [ah_i_sn (by omega)]; exact r3, by rw [ah_i_sn (by omega)]; exact r4, by rw [ah_i_sn (by omega)]; exact r5, fun k hk => by rw [ah_i_sn (by omega)]; exact r6 k hk, fun k => ?_, fun k => by rw [ah_i_sn (by omega)]; exact r8 k⟩
  unfold up32
  rw [ah_i_si]
  by_cases e : k = j
  · rw [if_pos ⟨rfl, e⟩, if_pos e]
  · rw [if_neg (fun z => e z.2), if_neg e]; exact r7 k
theorem rS_at {i q lv : Nat} {c : Nat → Nat} {wd : Int32} {T U : Nat → Int32} (r : rS h0 h i q lv c wd T U) : rS h0 (ah_si h 20 6 (ah_i h 20 6 + 1)) (i + 1) q lv c wd T U := by
  have e := r.2.1
  obtain ⟨r1, r2, r3, r4, r5, r6, r7, r8⟩ := r
  exact ⟨rFr_set r1 (.inr (.inr (.inr ⟨rfl, by decide⟩))), by rw [ah_i_ss, e, nI_1], by rw [ah_i_sn (by omega)]; exact r3, by rw [ah_i_sn (by omega)]; exact r4, by rw [ah_i_sn (by omega)]; exact r5, fun k hk => by rw [ah_i_sn (by omega)]; exact r6 k hk, fun k => by rw [ah_i_sn (by omega)]; exact r7 k, fun k => by rw [ah_i_sn (by omega)]; exact r8 k⟩
theorem rS_tk {i q lv : Nat} {c : Nat → Nat} {wd : Int32} {T U : Nat → Int32} (t : Ck cs vs isV n h0) (r : rS h0 h i q lv c wd T U) (hi : i ≤ n) : vp_in (ah_i h 20 6) (ah_n h 21) ∧ ah_i h 21 (Int32.toNatClampNeg (ah_i h 20 6)) = nI (tkA cs vs n i) := by
  have t1 := t.1
  rw [r.2.1, nI_clamp (by omega)]
  exact ⟨by rw [sh_n r.1.1 21 401 (by decide) (by decide) rfl]; exact (vp_nI (by omega)).mpr (by omega), tkA_i (Ck_r r.1 t) hi⟩
theorem n24 (hs : Sh h) : ah_n h 24 = 72 := sh_n hs 24 72 (by decide) (by decide) rfl
theorem col {k j : Nat} : nI (6 * k) + nI j = nI (6 * k + j) := nI_add _ _
/-- a sum is read behind a column that tells where its code begins -/
theorem c_sumTo {i q lv j : Nat} {c : Nat → Nat} {wd : Int32} {T U : Nat → Int32} {K F : ah_T → Prop} (t : Ck cs vs isV n h0) (r : rS h0 h i q lv c wd T U) (hi : i ≤ n) (hl : lv ≤ 50) (hb : 2 * q ≤ 15 * lv)
    (k1 : (pSum cs vs isV 8 i lv).1 = true → ∀ h' q' c' wd', rS h0 h' (pSum cs vs isV 8 i lv).2.1 q' (pSum cs vs isV 8 i lv).2.2.1 c' wd' (up32 T j (nI q)) U → 2 * q' ≤ 15 * (pSum cs vs isV 8 i lv).2.2.1 → gX q c wd q' c' wd' → cS1 (nI q) c' q' (some (pSum cs vs isV 8 i lv).2.2.2) → dep (pSum cs vs isV 8 i lv).2.2.2 wd' → K h')
    (k0 : (pSum cs vs isV 8 i lv).1 = false → ∀ h', rFl h0 h' (pSum cs vs isV 8 i lv).2.1 → F h') :
    Mt (mX5_readSum 60) [.ref 20, .int 0] (ah_si h 24 j (ah_i h 20 7)) (ab_qi fun v18 h16 => Sh h16 ∧ ((¬ v18 = 0 → Mt mX5_emit [.ref 20, .int 0, .int 0] h16 (ab_qi fun v22 h20 => Sh h20 ∧ K h20)) ∧ (v18 = 0 → F h16))) := by
  have r1 := rS_24 (j := j) (x := ah_i h 20 7) r
  rw [r.2.2.1] at r1 ⊢
  refine cr_Sum (Ck_r r1.1 t) 8 60 (by omega) (by omega) _ _ i q lv c wd hi hl (by omega) (rS_cS r1) (fun v h' p => ⟨v, rfl, cPo_Sh p, ?_⟩)
  cases e : (pSum cs vs isV 8 i lv).1
  · obtain ⟨p1, p2, p3⟩ := p.2 e
    subst p1
    (first | refine ⟨fun _ => ?_, fun n_ => absurd (show (0 : Int32) = 0 by rfl) n_⟩ | refine ⟨fun n_ => absurd (show (0 : Int32) = 0 by rfl) n_, fun _ => ?_⟩ | refine ⟨fun y_ => absurd y_ (show (0 : Int32) = 0 by rfl), fun _ => ?_⟩ | refine ⟨fun _ => ?_, fun y_ => absurd y_ (show (0 : Int32) = 0 by rfl)⟩)
    exact k0 e h' ⟨rFr_c r1.1 p2, p3⟩
  · obtain ⟨p1, q', c', wd', s, b, pc, im, mo, dp⟩ := p.1 e
    subst p1
    (first | refine ⟨fun _ => ?_, fun n_ => absurd (show ¬ (1 : Int32) = 0 by decide) n_⟩ | refine ⟨fun n_ => absurd (show ¬ (1 : Int32) = 0 by decide) n_, fun _ => ?_⟩ | refine ⟨fun y_ => absurd y_ (show ¬ (1 : Int32) = 0 by decide), fun _ => ?_⟩ | refine ⟨fun _ => ?_, fun y_ => absurd y_ (show ¬ (1 : Int32) = 0 by decide)⟩)
    have lv2 := ((pSum_ok (vs := vs) t.2.1 t.2.2.1 8 i lv hi hl).2.2 e).2
    have qq := im.1
    refine c_emit s (by omega) (o := 0) (v := 0) (by omega) (by omega) rfl rfl (fun h2 s2 => ⟨_, rfl, s2.1.1, ?_⟩)
    refine k1 e h2 (q' + 1) _ wd' (rS_c r1 s2) (by omega) ⟨by omega, fun k hk => by rw [up_n (by omega)]; exact pc k hk, mo⟩ ⟨q, q', _, rfl, by omega, by omega, impS_ext (fun k _ hk => up_n (by omega)) im, up_s _ _ _⟩ dp
theorem c_testTo {i q lv j : Nat} {c : Nat → Nat} {wd : Int32} {T U : Nat → Int32} {K F : ah_T → Prop} (t : Ck cs vs isV n h0) (r : rS h0 h i q lv c wd T U) (hi : i ≤ n) (hl : lv ≤ 50) (hb : 2 * q ≤ 15 * lv)
    (k1 : (pTest cs vs isV 8 i lv).1 = true → ∀ h' q' c' wd', rS h0 h' (pTest cs vs isV 8 i lv).2.1 q' (pTest cs vs isV 8 i lv).2.2.1 c' wd' (up32 T j (nI q)) U → 2 * q' ≤ 15 * (pTest cs vs isV 8 i lv).2.2.1 → gX q c wd q' c' wd' → cT1 (nI q) c' q' (some (pTest cs vs isV 8 i lv).2.2.2) → depT (pTest cs vs isV 8 i lv).2.2.2 wd' → K h')
    (k0 : (pTest cs vs isV 8 i lv).1 = false → ∀ h', rFl h0 h' (pTest cs vs isV 8 i lv).2.1 → F h') :
    Mt (mX5_readTest 60) [.ref 20, .int 0] (ah_si h 24 j (ah_i h 20 7)) (ab_qi fun v18 h16 => Sh h16 ∧ ((¬ v18 = 0 → Mt mX5_emit [.ref 20, .int 0, .int 0] h16 (ab_qi fun v22 h20 => Sh h20 ∧ K h20)) ∧ (v18 = 0 → F h16))) := by
  have r1 := rS_24 (j := j) (x := ah_i h 20 7) r
  rw [r.2.2.1] at r1 ⊢
  refine cr_Test (Ck_r r1.1 t) 8 60 (by omega) (by omega) _ _ i q lv c wd hi hl (by omega) (rS_cS r1) (fun v h' p => ⟨v, rfl, cPt_Sh p, ?_⟩)
  cases e : (pTest cs vs isV 8 i lv).1
  · obtain ⟨p1, p2, p3⟩ := p.2 e
    subst p1
    (first | refine ⟨fun _ => ?_, fun n_ => absurd (show (0 : Int32) = 0 by rfl) n_⟩ | refine ⟨fun n_ => absurd (show (0 : Int32) = 0 by rfl) n_, fun _ => ?_⟩ | refine ⟨fun y_ => absurd y_ (show (0 : Int32) = 0 by rfl), fun _ => ?_⟩ | refine ⟨fun _ => ?_, fun y_ => absurd y_ (show (0 : Int32) = 0 by rfl)⟩)
    exact k0 e h' ⟨rFr_c r1.1 p2, p3⟩
  · obtain ⟨p1, q', c', wd', s, l2, b, pc, im, mo, dp⟩ := p.1 e
    subst p1
    (first | refine ⟨fun _ => ?_, fun n_ => absurd (show ¬ (1 : Int32) = 0 by decide) n_⟩ | refine ⟨fun n_ => absurd (show ¬ (1 : Int32) = 0 by decide) n_, fun _ => ?_⟩ | refine ⟨fun y_ => absurd y_ (show ¬ (1 : Int32) = 0 by decide), fun _ => ?_⟩ | refine ⟨fun _ => ?_, fun y_ => absurd y_ (show ¬ (1 : Int32) = 0 by decide)⟩)
    have lv2 := ((pTest_ok (vs := vs) t.2.1 t.2.2.1 8 i lv hi hl).2.2 e).2
    have qq := im.1
    refine c_emit s (by omega) (o := 0) (v := 0) (by omega) (by omega) rfl rfl (fun h2 s2 => ⟨_, rfl, s2.1.1, ?_⟩)
    refine k1 e h2 (q' + 1) _ wd' (rS_c r1 s2) (by omega) ⟨by omega, fun k hk => by rw [up_n (by omega)]; exact pc k hk, mo⟩ ⟨q, q', _, rfl, by omega, by omega, impT_ext (fun k _ hk => up_n (by omega)) im, up_s _ _ _⟩ dp
theorem wd_tk {i c : Nat} (t : Ck cs vs isV n h0) (hi : i ≤ n) (h1 : 1 ≤ c) (h2 : c ≤ 25) {x : Int32} (e : x = nI (wdL.getD c 98)) : nI (tkA cs vs n i) = x ↔ cs i = c := by
  have := tkA_le t hi
  have hw := (wdL_lt c h2).1
  rw [e, nI_eq (by omega) (by omega), tkA_word t hi h1 h2]
/-- its if -/
theorem c_readIf {Q : Option Value → ah_T → Prop} {i q lv k : Nat} {c : Nat → Nat} {wd x : Int32} {T U : Nat → Int32} (t : Ck cs vs isV n h0) (r : rS h0 h i q lv c wd T U) (hi : i ≤ n) (hl : lv ≤ 50) (hb : 2 * q ≤ 15 * lv) (hk : k < 12) (ex : x = nI (6 * k)) (hT : T (6 * k + 5) = -1)
    (k1 : (pIf cs vs isV i lv).1 = true → ∀ h' q' c' wd' T', rS h0 h' (pIf cs vs isV i lv).2.1 q' (pIf cs vs isV i lv).2.2.1 c' wd' T' U → 2 * q' ≤ 15 * (pIf cs vs isV i lv).2.2.1 → gX q c wd q' c' wd' → (∀ j, j ≠ 6 * k + 5 → T' j = T j) → cT1 (T' (6 * k + 5)) c' q' (pIf cs vs isV i lv).2.2.2 → dpT (pIf cs vs isV i lv).2.2.2 wd' → Q (some (.int 1)) h')
    (k0 : (pIf cs vs isV i lv).1 = false → ∀ h', rFl h0 h' (pIf cs vs isV i lv).2.1 → Q (some (.int 0)) h') : Mt mX5_readIf [.ref 20, .int x] h Q := by
  subst ex
  obtain ⟨v1, e1⟩ := rS_tk t r hi
  refine T_X5_readIf r.1.1 _ ?_
  rw [e1]
  refine ⟨v1, fun z => ?_, fun z => ?_⟩
  · have c4 : cs i = 4 := (wd_tk t hi (by decide) (by decide) rfl).mp z
    have hin := lt_n t.2.1 hi (by omega)
    rintro h3 rfl
    rw [show nI (6 * k) + 5 = nI (6 * k + 5) from nI_add _ 5, nI_clamp (show 6 * k + 5 < 2 ^ 31 by omega), n24 (sh_si r.1.1)]
    refine ⟨(vp_nI (by omega)).mpr (by omega), ?_⟩
    rintro h7 rfl
    have hd : pIf cs vs isV i lv = pMp some (pTest cs vs isV 8 (i + 1) lv) := by unfold pIf; rw [if_pos c4]
    rw [hd] at k1 k0
    refine c_testTo (K := fun h => Q (some (.int 1)) h) (F := fun h => Q (some (.int 0)) h) t (rS_at r) hin hl hb (fun e h' q' c' wd' r' b g s d => ?_) (fun e h' f => k0 e h' f)
    exact k1 e h' q' c' wd' _ r' b g (fun j hj => up32_n hj) (by rw [up32_s]; exact s) (fun m hm => by cases hm; exact d)
  · have c4 : cs i ≠ 4 := fun y => z ((wd_tk t hi (by decide) (by decide) rfl).mpr y)
    have hd : pIf cs vs isV i lv = (true, i, lv, none) := by unfold pIf; rw [if_neg c4]
    rw [hd] at k1
    exact k1 rfl h q c wd T r hb gX_r (fun _ _ => rfl) hT (fun m hm => by cases hm)
/-- the head of a law's clause -/
theorem c_readLaw {Q : Option Value → ah_T → Prop} {i q lv k : Nat} {c : Nat → Nat} {wd x : Int32} {T U : Nat → Int32} (t : Ck cs vs isV n h0) (r : rS h0 h i q lv c wd T U) (hi : i ≤ n) (hl : lv ≤ 50) (hb : 2 * q ≤ 15 * lv) (hk : k < 12) (ex : x = nI (6 * k)) (hT : ∀ j, 6 * k ≤ j → j < 6 * k + 6 → T j = -1)
    (k1 : (pHd cs vs isV i lv).1 = true → ∀ h' q' c' wd' T', rS h0 h' (pHd cs vs isV i lv).2.1 q' (pHd cs vs isV i lv).2.2.1 c' wd' T' U → 2 * q' ≤ 15 * (pHd cs vs isV i lv).2.2.1 → gX q c wd q' c' wd' → (∀ j, j ≠ 6 * k → j ≠ 6 * k + 1 → T' j = T j) → T' (6 * k) = nI (pHd cs vs isV i lv).2.2.2.1 → cS1 (T' (6 * k + 1)) c' q' (pHd cs vs isV i lv).2.2.2.2 → dpS (pHd cs vs isV i lv).2.2.2.2 wd' → Q (some (.int 1)) h')
    (k0 : (pHd cs vs isV i lv).1 = false → ∀ h', rFl h0 h' (pHd cs vs isV i lv).2.1 → Q (some (.int 0)) h') : Mt mX5_readLaw [.ref 20, .int x] h Q := by
  subst ex
  obtain ⟨v1, e1⟩ := rS_tk t r hi
  have tl := tkA_le t hi
  have w1 := tkA_word t hi (c := 1) (by decide) (by decide)
  have w2 := tkA_word t hi (c := 2) (by decide) (by decide)
  have w3 := tkA_word t hi (c := 3) (by decide) (by decide)
  rw [show wdL.getD 1 98 = 13 from rfl] at w1
  rw [show wdL.getD 2 98 = 14 from rfl] at w2
  rw [show wdL.getD 3 98 = 15 from rfl] at w3
  refine T_X5_readLaw r.1.1 _ ?_
  rw [e1]
  have bad : ¬ (cs i = 1 ∨ cs i = 2 ∨ cs i = 3) → Q (some (.int 0)) h := by
    intro z
    have hd : pHd cs vs isV i lv = pFail i lv (0, none) := by unfold pHd; rw [if_neg (by omega), if_neg (by omega)]
    rw [hd] at k0
    exact k0 rfl h ⟨r.1, r.2.1⟩
  generalize ha : tkA cs vs n i = a at *
  refine ⟨v1, fun z => bad (fun y => ?_), fun z => ⟨fun z2 => ?_, fun z2 => bad (fun y => ?_)⟩⟩
  · have : 13 ≤ a := by omega
    rw [n_13, nI_sub this] at z
    exact nI_pos (by omega) z
  · have h13 : 13 ≤ a := by
      rcases Nat.lt_or_ge a 13 with y | y
      · exfalso
        apply z
        clear e1 tl w1 w2 w3
        grind
      · exact y
    rw [n_13, nI_sub h13] at z2 ⊢
    have h15 : a - 13 ≤ 2 := by
      rw [n_2, nI_leI (by omega) (by omega)] at z2
      exact z2
    rw [show nI (6 * k) + 0 = nI (6 * k + 0) from nI_add _ 0, nI_clamp (show 6 * k + 0 < 2 ^ 31 by omega), n24 r.1.1]
    refine ⟨(vp_nI (by omega)).mpr (by omega), ?_⟩
    rintro h5 rfl
    rintro h8 rfl
    have r2 := rS_at (rS_24 (j := 6 * k + 0) (x := nI (a - 13)) r)
    refine ⟨fun z3 => ?_, fun z3 => ?_⟩
    · have c1 : cs i = 1 := w1.mp (by
        have : a - 13 = 0 := (nI_eq (by omega) (by omega)).mp z3
        omega)
      have hd : pHd cs vs isV i lv = (true, i + 1, lv, 0, none) := by unfold pHd; rw [if_neg (by omega), if_pos c1]
      rw [hd] at k1
      refine k1 rfl _ q c wd _ r2 hb gX_r (fun j hj _ => up32_n (by omega)) ?_ ?_ (fun m hm => by cases hm)
      · show up32 T (6 * k + 0) (nI (a - 13)) (6 * k) = nI 0
        rw [show 6 * k = 6 * k + 0 from rfl, up32_s, z3]; rfl
      · show up32 T (6 * k + 0) (nI (a - 13)) (6 * k + 1) = -1
        rw [up32_n (by omega)]
        exact hT _ (by omega) (by omega)
    · have c23 : cs i = 2 ∨ cs i = 3 := by
        have : a - 13 ≠ 0 := fun y => z3 (by rw [y]; rfl)
        rcases (show a = 14 ∨ a = 15 by omega) with y | y
        · exact .inl (w2.mp y)
        · exact .inr (w3.mp y)
      have ea : a - 13 = cs i - 1 := by
        rcases c23 with y | y
        · have := w2.mpr y; omega
        · have := w3.mpr y; omega
      have hin := lt_n t.2.1 hi (by omega)
      rw [nI_1, nI_clamp (show 6 * k + 1 < 2 ^ 31 by omega), n24 r2.1.1]
      refine ⟨(vp_nI (by omega)).mpr (by omega), ?_⟩
      rintro h13 rfl
      have hd : pHd cs vs isV i lv = pMp (fun m => (cs i - 1, some m)) (pSum cs vs isV 8 (i + 1) lv) := by unfold pHd; rw [if_pos c23]
      rw [hd] at k1 k0
      refine c_sumTo (K := fun h => Q (some (.int 1)) h) (F := fun h => Q (some (.int 0)) h) t r2 hin hl hb (fun e h' q' c' wd' r' b g s d => ?_) (fun e h' f => k0 e h' f)
      refine k1 e h' q' c' wd' _ r' b g (fun j h1 h2 => by rw [up32_n h2, up32_n (by omega)]) ?_ (by rw [up32_s]; exact s) (fun m hm => by cases hm; exact d)
      rw [up32_n (by omega)]
      show up32 T (6 * k + 0) (nI (a - 13)) (6 * k) = nI (cs i - 1)
      rw [show 6 * k = 6 * k + 0 from rfl, up32_s, ea]
  · have : a ≤ 15 := by omega
    have : 13 ≤ a := by omega
    apply z2
    rw [n_13, nI_sub this, n_2, nI_leI (by omega) (by omega)]
    omega
end CL
