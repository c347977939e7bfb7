/-! ===== the class's night: another one; switches and waiting ones ===== -/
section CP
variable {A : Nat → Nat} {N : Nd} {h g h1 : ah_T} {sp : Nat} {S : Ns} {fr : Nat → Bool}
theorem c_invite {Q : Option Value → ah_T → Prop} (hs : Sh h) (t : cTw A h) (d : cND A N sp h) {c k : Nat} {x1 x2 : Int32} (e1 : x1 = nI c) (e2 : x2 = nI k) (hc : c < 12) (hk : k < 6) (hn : A 246 < 10) (hp : sp = 0 ∨ sp = A 246 + 1) (hq0 : N.q = A 248)
    (hq : ∀ h', ceN h h' → cND A (ndI A c k) (A 246 + 1) h' → Q none h') : Mt mX3_invite [.ref 43, .int x1, .int x2] h Q := by
  subst e1 e2
  have wl := t.1.2.2.1
  have wn := t.2.2.1.2.2.1
  obtain ⟨⟨d0, d1, d2, d3⟩, ⟨f1, f2, f3, f4, f5, f6, f7, f8, f9⟩, d4, d5, d6, d7, d8, d9⟩ := d
  have vl : vp_in (nI (A 246)) 10 := (vp_nI (by omega)).mpr hn
  refine T_X3_invite hs _ _ ?_
  rw [t.1.2.1, sh_n hs 44 10 (by decide) (by decide) rfl, nI_clamp (show A 246 < 2 ^ 31 by omega), nI_1]
  (first | refine ⟨fun _ => ?_, fun n_ => absurd (show ¬ 10 ≤ nI (A 246) from nI_ge (b := 10) hn (by omega)) n_⟩ | refine ⟨fun n_ => absurd (show ¬ 10 ≤ nI (A 246) from nI_ge (b := 10) hn (by omega)) n_, fun _ => ?_⟩ | refine ⟨fun y_ => absurd y_ (show ¬ 10 ≤ nI (A 246) from nI_ge (b := 10) hn (by omega)), fun _ => ?_⟩ | refine ⟨fun _ => ?_, fun y_ => absurd y_ (show ¬ 10 ≤ nI (A 246) from nI_ge (b := 10) hn (by omega))⟩)
  refine ⟨vl, ?_⟩
  intro h3 q3
  have s3 : Sh h3 := by rw [q3]; exact sh_si hs
  rw [sh_n s3 45 10 (by decide) (by decide) rfl]
  refine ⟨vl, ?_⟩
  rintro h7 rfl h10 rfl h13 rfl
  subst q3
  have kk : ∀ a, a ≠ 43 → a ≠ 44 → a ≠ 45 → ∀ j, ah_i (ah_si (ah_si (ah_si (ah_si h 44 (A 246) (nI c)) 45 (A 246) (nI k)) 43 0 (nI (A 246 + 1))) 43 15 (nI (A 246))) a j = ah_i h a j := fun a n1 n2 n3 j => by rw [ah_i_sn (by omega), ah_i_sn (by omega), ah_i_sn (by omega), ah_i_sn (by omega)]
  have wf0 := wfD_0 wl wn
  refine hq _ (ceN_s (by omega) (ceN_s (by omega) (ceN_s (by omega) (ceN_s (by omega) (ceN_r hs))))) ⟨⟨by show A 246 + 1 ≤ 10; omega, fun l hl => ?_, wf0.2.2.1, wf0.2.2.2⟩, ⟨Nat.le_succ _, Nat.le_refl _, (decide_eq_true (Nat.lt_succ_self _)).symm, fun l hl => ?_, fun _ => rfl, Nat.le_refl _, Nat.le_refl _, Nat.le_succ _, fun k hk => ⟨rfl, fun m hm => rfl⟩⟩, ?_, ?_, ?_, fun l hl => ?_, fun k' hk' => ?_, ⟨fun m hm => ?_, fun i hi => ?_⟩⟩
  · have hl' : l < A 246 + 1 := hl
    show (if l = A 246 then c else A (60 + 3 * l)) < 12 ∧ (if l = A 246 then k else A (61 + 3 * l)) < 6
    by_cases z : l = A 246
    · rw [if_pos z, if_pos z]; exact ⟨hc, hk⟩
    · rw [if_neg z, if_neg z]
      have := wl.2 l (by omega)
      exact ⟨this.1, this.2.1⟩
  · exact ⟨if_neg (by omega), fun _ => if_neg (by omega)⟩
  · rw [ah_i_sn (by omega), ah_i_ss]; rfl
  · rw [ah_i_sn (by omega), ah_i_sn (by omega), ah_i_sn (by omega), ah_i_sn (by omega), d5, hq0]; rfl
  · rw [ah_i_ss, nO_s]
  · have hl' : l < A 246 + 1 := hl
    show _ = nI (if l = A 246 then c else A (60 + 3 * l)) ∧ _ = nI (if l = A 246 then k else A (61 + 3 * l))
    by_cases z : l = A 246
    · subst z
      rw [if_pos rfl, if_pos rfl]
      exact ⟨by rw [ah_i_sn (by omega), ah_i_sn (by omega), ah_i_sn (by omega), ah_i_ss], by rw [ah_i_sn (by omega), ah_i_sn (by omega), ah_i_ss]⟩
    · rw [if_neg z, if_neg z, ah_i_sn (by omega), ah_i_sn (by omega), ah_i_sn (by omega), ah_i_sn (by omega), ah_i_sn (by omega), ah_i_sn (by omega), ah_i_sn (by omega), ah_i_sn (by omega), (d7 l (by omega)).1, (d7 l (by omega)).2, (f4 l (by omega)).1, (f4 l (by omega)).2 (by omega)]
      exact ⟨rfl, rfl⟩
  · have hk2 : k' < A 248 := hk'
    rw [kk 48 (by decide) (by decide) (by decide)]
    refine ⟨by rw [(d8 k' (by omega)).1, (f9 k' hk2).1]; rfl, fun m hm => ?_⟩
    rw [kk 49 (by decide) (by decide) (by decide), (d8 k' (by omega)).2 m hm, (f9 k' hk2).2 m hm]; rfl
  · rw [kk 50 (by decide) (by decide) (by decide)]; exact d9.1 m hm
  · rw [kk 51 (by decide) (by decide) (by decide)]; exact d9.2 i hi
theorem c_disguise {Q : Option Value → ah_T → Prop} (hs : Sh h) (t : cTw A h) (d : cND A N sp h) {l k : Nat} {x1 x2 : Int32} (e1 : x1 = nI l) (e2 : x2 = nI k) (hl : l < A 246) (hk : k < 6) (hn : N.n = A 246) (hp : sp = 0 ∨ sp = l + 1) (hq0 : N.q = A 248)
    (hq : ∀ h', ceN h h' → cND A (ndK A l k) (if k = A (61 + 3 * l) then 0 else l + 1) h' → Q none h') : Mt mX3_disguise [.ref 43, .int x1, .int x2] h Q := by
  subst e1 e2
  have wl := t.1.2.2.1
  have wl1 := wl.1
  have wn := t.2.2.1.2.2.1
  obtain ⟨⟨d0, d1, d2, d3⟩, ⟨f1, f2, f3, f4, f5, f6, f7, f8, f9⟩, d4, d5, d6, d7, d8, d9⟩ := d
  have vl : vp_in (nI l) 10 := (vp_nI (by omega)).mpr (by omega)
  have wf0 := wfD_0 wl wn
  have fin : ∀ (s : Nat) (v : Int32), v = nO s → s = (if k = A (61 + 3 * l) then 0 else l + 1) → Q none (ah_si (ah_si h 45 l (nI k)) 43 15 v) := by
    intro s v ev es
    have kk : ∀ a, a ≠ 43 → a ≠ 45 → ∀ j, ah_i (ah_si (ah_si h 45 l (nI k)) 43 15 v) a j = ah_i h a j := fun a n1 n2 j => by rw [ah_i_sn (by omega), ah_i_sn (by omega)]
    rw [← es] at hq
    have hs11 : s ≤ l + 1 := by rw [es]; split <;> omega
    refine hq _ (ceN_s (by omega) (ceN_s (by omega) (ceN_r hs))) ⟨⟨wl1, fun x hx => ?_, wf0.2.2.1, wf0.2.2.2⟩, ⟨Nat.le_refl _, Nat.le_succ _, (decide_eq_false (Nat.lt_irrefl _)).symm, fun x hx => ⟨rfl, fun y => ?_⟩, fun y => absurd y (Nat.lt_irrefl _), by show s ≤ A 246; omega, Nat.le_refl _, Nat.le_succ _, fun k hk => ⟨rfl, fun m hm => rfl⟩⟩, ?_, ?_, ?_, fun x hx => ?_, fun k' hk' => ?_, ⟨fun m hm => ?_, fun i hi => ?_⟩⟩
    · have hx' : x < A 246 := hx
      have := wl.2 x hx'
      show A (60 + 3 * x) < 12 ∧ (if x = l then k else A (61 + 3 * x)) < 6
      by_cases z : x = l
      · rw [if_pos z]; exact ⟨this.1, hk⟩
      · rw [if_neg z]; exact ⟨this.1, this.2.1⟩
    · show (if x = l then k else A (61 + 3 * x)) = A (61 + 3 * x)
      by_cases z : x = l
      · rw [if_pos z, z]
        by_cases w : k = A (61 + 3 * l)
        · exact w
        · rw [if_neg w] at es
          omega
      · rw [if_neg z]
    · rw [ah_i_sn (by omega), ah_i_sn (by omega), d4, hn]; rfl
    · rw [ah_i_sn (by omega), ah_i_sn (by omega), d5, hq0]; rfl
    · rw [ah_i_ss, ev]
    · have hx' : x < A 246 := hx
      rw [kk 44 (by decide) (by decide), (d7 x (by omega)).1, (f4 x hx').1]
      refine ⟨rfl, ?_⟩
      show _ = nI (if x = l then k else A (61 + 3 * x))
      by_cases z : x = l
      · rw [if_pos z, z, ah_i_sn (by omega), ah_i_ss]
      · rw [if_neg z, ah_i_sn (by omega), ah_i_sn (by omega), (d7 x (by omega)).2, (f4 x hx').2 (by omega)]
    · have hk2 : k' < A 248 := hk'
      rw [kk 48 (by decide) (by decide)]
      refine ⟨by rw [(d8 k' (by omega)).1, (f9 k' hk2).1]; rfl, fun m hm => ?_⟩
      rw [kk 49 (by decide) (by decide), (d8 k' (by omega)).2 m hm, (f9 k' hk2).2 m hm]; rfl
    · rw [kk 50 (by decide) (by decide)]; exact d9.1 m hm
    · rw [kk 51 (by decide) (by decide)]; exact d9.2 i hi
  refine T_X3_disguise hs _ _ ?_
  rw [nI_clamp (show l < 2 ^ 31 by omega), sh_n hs 45 10 (by decide) (by decide) rfl]
  refine ⟨vl, ?_⟩
  intro h2 q2
  have c2 : ceN h h2 := by rw [q2]; exact ceN_s (by omega) (ceN_r hs)
  refine lm_get c2.1 (cTw_n c2 t).1 rfl (k := 1) rfl hl (by omega) ⟨_, rfl, c2.1, ?_⟩
  rw [show 60 + 3 * l + 1 = 61 + 3 * l by omega]
  have u6 := (wl.2 l hl).2.1
  rw [nI_eq (show k < 2 ^ 31 by omega) (show A (61 + 3 * l) < 2 ^ 31 by omega)]
  refine ⟨fun z => ?_, fun z => ?_⟩
  · rintro h9 rfl
    rw [q2]
    exact fin (l + 1) _ (nO_s l).symm (if_neg z).symm
  · rintro h12 rfl
    rw [q2]
    exact fin 0 _ rfl (if_pos z).symm
theorem c_carry {Q : Option Value → ah_T → Prop} (hs : Sh h) (t : cTw A h) (d : cND A N 0 h) {k a2 : Nat} {p : Nat → Nat} {x1 : Int32} (e1 : x1 = nI k) (hk : k < 6) (hn : N.n = A 246) (ha : a2 = 19 ∨ a2 = 71) (ep : ∀ m, m < 120 → ah_i h a2 m = nO (p m) ∧ p m ≤ 12)
    (hq : ∀ h', ceN h h' → cND A (ndC A k p) 0 h' → (∀ a, a ≠ 43 → a ≠ 48 → a ≠ 49 → ∀ j, ah_i h' a j = ah_i h a j) → (∀ j, j ≠ 8 → ah_i h' 43 j = ah_i h 43 j) → Q none h') : Mt mX3_carry [.ref 43, .int x1, .ref a2] h Q := by
  subst e1
  have wl := t.1.2.2.1
  have wn := t.2.2.1.2.2.1
  have wn1 := wn.1
  have wf0 := wfD_0 wl wn
  obtain ⟨⟨d0, d1, d2, d3⟩, ⟨f1, f2, f3, f4, f5, f6, f7, f8, f9⟩, d4, d5, d6, d7, d8, d9⟩ := d
  have hk14 : ah_k h a2 = 14 := by rcases ha with rfl | rfl; exact sh_k hs 19 14 (by decide) rfl; exact sh_k hs 71 14 (by decide) rfl
  have hn2 : ah_n h a2 = 120 := by rcases ha with rfl | rfl; exact sh_n hs 19 120 (by decide) (by decide) rfl; exact sh_n hs 71 120 (by decide) (by decide) rfl
  have z0 : Int32.toNatClampNeg 0 = 0 := rfl
  have z120 : Int32.toNatClampNeg 120 = 120 := rfl
  have c1 : nI (A 248) * 120 = nI (A 248 * 120) := by rw [n_120, nI_mul]
  refine T_X3_carry hs _ a2 hk14 ?_
  rw [t.2.2.1.2.1, nI_clamp (show A 248 < 2 ^ 31 by omega), z0, z120, c1, nI_clamp (show A 248 * 120 < 2 ^ 31 by omega), sh_n hs 48 3 (by decide) (by decide) rfl]
  refine ⟨(vp_nI (by omega)).mpr (by omega), ?_⟩
  intro h2 q2
  have s2 : Sh h2 := by rw [q2]; exact sh_si hs
  have n2 : ah_n h2 a2 = 120 := by rw [q2, ah_n_si]; exact hn2
  have i2 : ∀ j, ah_i h2 a2 j = ah_i h a2 j := fun j => by rw [q2, ah_i_sn (by omega)]
  rw [n2, sh_n s2 49 360 (by decide) (by decide) rfl]
  refine ⟨nI_pos (by omega), by omega, by omega, ?_⟩
  intro h9 q9
  have s9 : Sh h9 := by rw [q9]; exact sh_sa s2
  have e8 : ah_i h9 8 3 = nI (A 248) := by rw [q9, ah_i_sa, if_neg (by omega), q2, ah_i_sn (by omega)]; exact t.2.2.1.2.1
  rw [e8, nI_1]
  rintro h13 rfl
  have kk : ∀ a, a ≠ 43 → a ≠ 48 → a ≠ 49 → ∀ j, ah_i (ah_si h9 43 8 (nI (A 248 + 1))) a j = ah_i h a j := fun a n1 n2 n3 j => by rw [ah_i_sn (by omega), q9, ah_i_sa, if_neg n3, q2, ah_i_sn (by omega)]
  have k43 : ∀ j, j ≠ 8 → ah_i (ah_si h9 43 8 (nI (A 248 + 1))) 43 j = ah_i h 43 j := fun j n1 => by rw [ah_i_sn (by omega), q9, ah_i_sa, if_neg (by omega), q2, ah_i_sn (by omega)]
  have c9 : ceN h h9 := by
    rw [q9]
    refine ⟨sh_sa s2, by rw [ah_x_sa, q2, ah_x_si], fun a ha => eqc_sa ?_ (by omega)⟩
    rw [q2]
    exact eqc_si eqc_rfl (by omega)
  refine hq _ (ceN_s (by omega) c9) ⟨⟨wl.1, wf0.2.1, by show A 248 + 1 ≤ 3; omega, fun x hx => ?_⟩, ⟨Nat.le_refl _, Nat.le_succ _, (decide_eq_false (Nat.lt_irrefl _)).symm, fun l hl => ⟨rfl, fun _ => rfl⟩, fun y => absurd y (Nat.lt_irrefl _), Nat.zero_le _, Nat.le_succ _, Nat.le_refl _, fun x hx => ⟨if_neg (by omega), fun m hm => if_neg (by omega)⟩⟩, ?_, ?_, ?_, fun l hl => ?_, fun x hx => ?_, ⟨fun m hm => ?_, fun i hi => ?_⟩⟩ kk k43
  · have hx' : x < A 248 + 1 := hx
    show (if x = A 248 then k else A (162 + 19 * x)) < 6 ∧ ∀ m, m < 120 → (if x = A 248 then p m else plA A x m) ≤ 12
    by_cases z : x = A 248
    · rw [if_pos z]
      exact ⟨hk, fun m hm => by rw [if_pos z]; exact (ep m hm).2⟩
    · rw [if_neg z]
      obtain ⟨y1, y2⟩ := wf0.2.2.2 x (by show x < A 248; omega)
      exact ⟨y1, fun m hm => by rw [if_neg z]; exact y2 m hm⟩
  · rw [k43 0 (by decide), d4, hn]; rfl
  · rw [ah_i_ss]; rfl
  · rw [k43 15 (by decide), d6]
  · have hl' : l < A 246 := hl
    rw [kk 44 (by decide) (by decide) (by decide), kk 45 (by decide) (by decide) (by decide), (d7 l (by omega)).1, (d7 l (by omega)).2, (f4 l hl').1, (f4 l hl').2 (by omega)]
    exact ⟨rfl, rfl⟩
  · have hx' : x < A 248 + 1 := hx
    show _ = nI (if x = A 248 then k else A (162 + 19 * x)) ∧ ∀ m, m < 120 → _ = nO (if x = A 248 then p m else plA A x m)
    rw [ah_i_sn (by omega), q9, ah_i_sa, if_neg (by omega), q2, ah_i_si]
    by_cases z : x = A 248
    · rw [if_pos ⟨rfl, z⟩, if_pos z]
      refine ⟨rfl, fun m hm => ?_⟩
      rw [ah_i_sn (by omega), ah_i_sa, if_pos rfl, if_pos z]
      unfold va_cpy
      rw [if_pos (by omega), ah_i_sn (by omega), show 0 + (120 * x + m - A 248 * 120) = m by omega]
      exact (ep m hm).1
    · rw [if_neg (fun y => z y.2), if_neg z]
      refine ⟨by rw [(d8 x (by omega)).1, (f9 x (by omega)).1], fun m hm => ?_⟩
      rw [ah_i_sn (by omega), ah_i_sa, if_pos rfl, if_neg z]
      unfold va_cpy
      rw [if_neg (by omega), ah_i_sn (by omega), (d8 x (by omega)).2 m hm, (f9 x (by omega)).2 m hm]
  · rw [kk 50 (by decide) (by decide) (by decide)]; exact d9.1 m hm
  · rw [kk 51 (by decide) (by decide) (by decide)]; exact d9.2 i hi
theorem c_keep {Q : Option Value → ah_T → Prop} (hs : Sh h) (n : cNS N S fr h) (hn : N.n ≤ 10) (hq : ∀ h', ceN h h' → cKp N S h' → (∀ a, a ≠ 53 → ∀ j, ah_i h' a j = ah_i h a j) → Q none h') : Mt mX3_keep [.ref 43] h Q := by
  have z0 : Int32.toNatClampNeg 0 = 0 := rfl
  have z10 : Int32.toNatClampNeg 10 = 10 := rfl
  have z20 : Int32.toNatClampNeg 20 = 20 := rfl
  have z21 : Int32.toNatClampNeg 21 = 21 := rfl
  refine T_X3_keep hs ?_
  rw [z0, z10, z20, z21, sh_n hs 46 10 (by decide) (by decide) rfl, sh_n hs 53 22 (by decide) (by decide) rfl]
  refine ⟨by omega, by omega, ?_⟩
  intro h3 q3
  have s3 : Sh h3 := by rw [q3]; exact sh_sa hs
  rw [sh_n s3 47 10 (by decide) (by decide) rfl, sh_n s3 53 22 (by decide) (by decide) rfl]
  refine ⟨by omega, by omega, ?_⟩
  intro h8 q8
  have s8 : Sh h8 := by rw [q8]; exact sh_sa s3
  have k8 : ∀ a, a ≠ 53 → ∀ j, ah_i h8 a j = ah_i h a j := fun a n1 j => by rw [q8, ah_i_sa, if_neg n1, q3, ah_i_sa, if_neg n1]
  have c8 : ceN h h8 := ⟨s8, by rw [q8, ah_x_sa, q3, ah_x_sa], fun a ha => by rw [q8, q3]; exact eqc_sa (eqc_sa eqc_rfl (by omega)) (by omega)⟩
  rw [k8 43 (by decide) 5]
  rintro h11 rfl
  rw [ah_i_sn (by omega), k8 43 (by decide) 14]
  rintro h14 rfl
  obtain ⟨n1, n2, n3, n4, n5, n6⟩ := n
  refine hq _ (ceN_s (by omega) (ceN_s (by omega) c8)) ⟨n1, n2, fun i hi => ?_, fun i hi => ?_, fun l hl => ?_⟩ (fun a n1 j => by rw [ah_i_sn (by omega), ah_i_sn (by omega), k8 a n1])
  · rw [ah_i_sn (by omega), ah_i_ss]; exact n3 i hi
  · rw [ah_i_ss]; exact n4 i hi
  · have e46 : ah_i h8 53 l = ah_i h 46 l := by
      rw [q8, ah_i_sa, if_pos rfl]
      unfold va_cpy
      rw [if_neg (by omega), q3, ah_i_sa, if_pos rfl]
      unfold va_cpy
      rw [if_pos (by omega), show 0 + (l - 0) = l by omega]
    have e47 : ah_i h8 53 (10 + l) = ah_i h 47 l := by
      rw [q8, ah_i_sa, if_pos rfl]
      unfold va_cpy
      rw [if_pos (by omega), q3, ah_i_sa, if_neg (by omega), show 0 + (10 + l - 10) = l by omega]
    rw [ah_i_sn (by omega), ah_i_sn (by omega), ah_i_sn (by omega), ah_i_sn (by omega), e46, e47]
    exact n6 l hl
theorem c_recall {Q : Option Value → ah_T → Prop} (hs : Sh h) (n : cKp N S h) (hn : N.n ≤ 10) (hq : ∀ h', ceN h h' → cNS N S (fun _ => false) h' → cKp N S h' → (∀ a, a ≠ 43 → a ≠ 46 → a ≠ 47 → ∀ j, ah_i h' a j = ah_i h a j) → (∀ j, j ≠ 5 → j ≠ 6 → j ≠ 14 → ah_i h' 43 j = ah_i h 43 j) → Q none h') : Mt mX3_recall [.ref 43] h Q := by
  have z0 : Int32.toNatClampNeg 0 = 0 := rfl
  have z10 : Int32.toNatClampNeg 10 = 10 := rfl
  have z20 : Int32.toNatClampNeg 20 = 20 := rfl
  have z21 : Int32.toNatClampNeg 21 = 21 := rfl
  refine T_X3_recall hs ?_
  rw [z0, z10, z20, z21, sh_n hs 46 10 (by decide) (by decide) rfl, sh_n hs 53 22 (by decide) (by decide) rfl]
  refine ⟨by omega, by omega, ?_⟩
  intro h3 q3
  have s3 : Sh h3 := by rw [q3]; exact sh_sa hs
  rw [sh_n s3 47 10 (by decide) (by decide) rfl, sh_n s3 53 22 (by decide) (by decide) rfl]
  refine ⟨by omega, by omega, ?_⟩
  intro h8 q8
  have s8 : Sh h8 := by rw [q8]; exact sh_sa s3
  have k8 : ∀ a, a ≠ 46 → a ≠ 47 → ∀ j, ah_i h8 a j = ah_i h a j := fun a n1 n2 j => by rw [q8, ah_i_sa, if_neg n2, q3, ah_i_sa, if_neg n1]
  have c8 : ceN h h8 := ⟨s8, by rw [q8, ah_x_sa, q3, ah_x_sa], fun a ha => by rw [q8, q3]; exact eqc_sa (eqc_sa eqc_rfl (by omega)) (by omega)⟩
  rw [k8 53 (by decide) (by decide) 20]
  rintro h11 rfl
  rw [ah_i_sn (by omega), k8 53 (by decide) (by decide) 21]
  rintro h14 rfl h17 rfl
  have kp := n
  obtain ⟨n1, n2, n3, n4, n6⟩ := n
  have k9 : ∀ a, a ≠ 43 → a ≠ 46 → a ≠ 47 → ∀ j, ah_i (ah_si (ah_si (ah_si h8 43 5 (ah_i h 53 20)) 43 14 (ah_i h 53 21)) 43 6 0) a j = ah_i h a j := fun a n0 n1 n2 j => by rw [ah_i_sn (by omega), ah_i_sn (by omega), ah_i_sn (by omega), k8 a n1 n2]
  refine hq _ (ceN_s (by omega) (ceN_s (by omega) (ceN_s (by omega) c8))) ⟨n1, n2, fun i hi => ?_, fun i hi => ?_, fun i hi => ?_, fun l hl => ?_⟩ (cKp_fr (k9 53 (by decide) (by decide) (by decide)) kp) k9 (fun j m1 m2 m3 => by rw [ah_i_sn (by omega), ah_i_sn (by omega), ah_i_sn (by omega), k8 43 (by decide) (by decide)])
  · rw [ah_i_sn (by omega), ah_i_sn (by omega), ah_i_ss]; exact n3 i hi
  · rw [ah_i_sn (by omega), ah_i_ss]; exact n4 i hi
  · rw [ah_i_ss, b_0]
    exact ⟨fun y => absurd y (by decide), fun y => absurd (show false = true from y.2) (by decide)⟩
  · have e46 : ah_i h8 46 l = ah_i h 53 l := by
      rw [q8, ah_i_sa, if_neg (by omega), q3, ah_i_sa, if_pos rfl]
      unfold va_cpy
      rw [if_pos (by omega), show 0 + (l - 0) = l by omega]
    have e47 : ah_i h8 47 l = ah_i h 53 (10 + l) := by
      rw [q8, ah_i_sa, if_pos rfl]
      unfold va_cpy
      rw [if_pos (by omega), q3, ah_i_sa, if_neg (by omega), show 10 + (l - 0) = 10 + l by omega]
    rw [ah_i_sn (by omega), ah_i_sn (by omega), ah_i_sn (by omega), e46, ah_i_sn (by omega), ah_i_sn (by omega), ah_i_sn (by omega), e47]
    exact n6 l hl
end CP
