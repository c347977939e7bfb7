/-! ===== images: a new town; what is copied holds the same ===== -/
/-- i tables of a new town stand -/
def nsO (i t : Nat) (h g : ah_T) : Prop := ah_x g = t + 1 + 2 * i ∧ (∀ c, c < t → eqc h g c) ∧ ah_k g t = 10 ∧ ∀ j, j < i → ah_r g t j = some (t + (2 * j + 1)) ∧ ah_k g (t + (2 * j + 1)) = 7 ∧ ah_k g (t + (2 * j + 2)) = 14 ∧ ah_n g (t + (2 * j + 2)) = iN.getD (2 * j + 2) 0 ∧ ah_r g (t + (2 * j + 1)) 2 = some (t + (2 * j + 2)) ∧ ah_i g (t + (2 * j + 1)) 0 = nI (iRm.getD j 0) ∧ ah_i g (t + (2 * j + 1)) 1 = nI (iWd.getD j 0)
theorem iN_72 : ∀ k, k < 6 → iRm.getD k 0 * iWd.getD k 0 ≤ 72 := by decide +kernel
theorem iK_10 : ∀ i, i < 15 → 0 < i → ¬ iK.getD i 0 = 10 := by decide +kernel
theorem iK_9 : ∀ i, i < 15 → ¬ iK.getD i 0 = 9 := by decide +kernel
theorem iN_10 : ∀ i, i < 15 → iK.getD i 0 = 14 → ¬ iN.getD i 0 = 10240 := by decide +kernel
section NT
variable {TX : ah_T → Nat → (Nat → Nat) → (Nat → Nat) → Nat → Prop} {A : Nat → Nat} {h g u : ah_T} {a s k t i b c o c' o' : Nat}
theorem c_newTab {Q : Option Value → ah_T → Prop} {r w : Nat} (et : t + 1 = ah_x h) (kt : ah_k h t = 7) (h72 : r * w ≤ 72) (hq : ∀ g, ah_x g = ah_x h + 1 → (∀ c, c < t → eqc h g c) → ah_k g t = 7 → ah_k g (t + 1) = 14 → ah_n g (t + 1) = r * w → ah_r g t 2 = some (t + 1) → ah_i g t 0 = nI r → ah_i g t 1 = nI w → Q none g) : Mt nX7_init [.ref t, .int (nI r), .int (nI w)] h Q := by
  refine T_X7_init t _ _ kt ?_
  rintro h1 rfl h5 rfl h9 rfl
  obtain ⟨v, ev⟩ : ∃ v, v = ah_si (ah_si (ah_si h t 3 0) t 0 (nI r)) t 1 (nI w) := ⟨_, rfl⟩
  rw [← ev]
  have xv : ah_x v = ah_x h := by rw [ev, ah_x_si, ah_x_si, ah_x_si]
  have kv : ah_k v t = 7 := by rw [ev, ah_k_si, ah_k_si, ah_k_si]; exact kt
  have vo : ∀ c, c < t → eqc h v c := fun c hc => by rw [ev]; exact eqc_si (eqc_si (eqc_si eqc_rfl (by omega)) (by omega)) (by omega)
  have v0 : ah_i v t 0 = nI r := by rw [ev, ah_i_sn (by omega), ah_i_ss]
  have v1 : ah_i v t 1 = nI w := by rw [ev, ah_i_ss]
  rw [nI_mul, nI_clamp (show r * w < 2 ^ 31 by omega), xv]
  refine ⟨nI_pos (by omega), by omega, ?_⟩
  rintro w15 rfl h17 rfl
  refine ⟨by omega, ?_⟩
  rintro h24 rfl
  have et2 : ah_x h = t + 1 := et.symm
  refine hq _ (by rw [ah_x_sr, ah_x_nw, xv]) (fun c hc => eqc_sr (eqc_nw (vo c hc) (by omega)) (by omega)) ?_ ?_ ?_ ?_ ?_ ?_
  · rw [ah_k_sr, ah_k_nw, if_neg (by omega)]; exact kv
  · rw [ah_k_sr, ah_k_nw, if_pos (by omega)]
  · rw [ah_n_sr, ah_n_nw, if_pos (by omega)]
  · rw [ah_r_sr, if_pos ⟨rfl, rfl⟩, et2]
  · rw [ah_i_sr, ah_i_nw, if_neg (by omega)]; exact v0
  · rw [ah_i_sr, ah_i_nw, if_neg (by omega)]; exact v1
theorem ns_step {P : ah_T → Prop} (hi : i < 6) (n : nsO i t h g) {x1 x2 : Int32} (e1 : x1 = nI (iRm.getD i 0)) (e2 : x2 = nI (iWd.getD i 0)) (hP : ∀ g', nsO (i + 1) t h g' → P g') : ∀ w1, w1 = ah_x g → ∀ h3, h3 = ah_nw g 7 0 → (¬ t = ah_x g) ∧ Mt nX7_init [.ref w1, .int x1, .int x2] h3 (ab_qv fun h9 => ah_k h9 t = 10 ∧ ah_k h9 w1 = 7 ∧ ∀ h14, h14 = ah_sr h9 t i (some w1) → P h14) := by
  subst e1 e2
  obtain ⟨n1, n2, n3, n4⟩ := n
  rintro w1 rfl h3 rfl
  refine ⟨by omega, c_newTab (t := ah_x g) (by rw [ah_x_nw]) (by rw [ah_k_nw, if_pos rfl]) (iN_72 i hi) (fun u xu eu k7 k14 n14 r2 i0 i1 => ⟨rfl, ?_, k7, ?_⟩)⟩
  · rw [(eu t (by omega)).2.2.2.1, ah_k_nw, if_neg (by omega)]; exact n3
  rintro h14 rfl
  rw [ah_x_nw] at xu
  have E : ∀ c, c < ah_x g → eqc g u c := fun c hc => eqc_trans (eqc_nw eqc_rfl (by omega)) (eu c hc)
  have ew : ah_x g = t + (2 * i + 1) := by omega
  have ew2 : ah_x g + 1 = t + (2 * i + 2) := by omega
  refine hP _ ⟨by rw [ah_x_sr, xu]; omega, fun c hc => eqc_sr (eqc_trans (n2 c hc) (E c (by omega))) (by omega), by rw [ah_k_sr, (E t (by omega)).2.2.2.1]; exact n3, fun j hj => ?_⟩
  by_cases z : j = i
  · subst z
    rw [← ew, ← ew2]
    refine ⟨by rw [ah_r_sr, if_pos ⟨rfl, rfl⟩], k7, k14, by rw [ah_n_sr, n14]; exact (iN_e j hi).2.1.symm, by rw [ah_r_sr, if_neg (by omega)]; exact r2, i0, i1⟩
  · obtain ⟨m1, m2, m3, m4, m5, m6, m7⟩ := n4 j (by omega)
    have e1 := E (t + (2 * j + 1)) (by omega)
    have e2 := E (t + (2 * j + 2)) (by omega)
    exact ⟨by rw [ah_r_sr, if_neg (by omega), (E t (by omega)).2.2.1]; exact m1, e1.2.2.2.1.trans m2, e2.2.2.2.1.trans m3, e2.2.2.2.2.trans m4, by rw [ah_r_sr, if_neg (by omega), e1.2.2.1]; exact m5, (e1.1 0).trans m6, (e1.1 1).trans m7⟩
theorem c_newTown {Q : Option Value → ah_T → Prop} (et : t + 1 = ah_x h) (kt : ah_k h t = 10) (hq : ∀ g, ah_x g = ah_x h + 14 → (∀ c, c < t → eqc h g c) → tB g t → tW g t → (∀ j, ah_r g (t + 14) j = none) → Q none g) : Mt nX10_init [.ref t] h Q := by
  have o0 : nsO 0 t h h := ⟨by omega, fun _ _ => eqc_rfl, kt, fun j hj => absurd hj (by omega)⟩
  refine T_X10_init t kt (ns_step (i := 0) (by omega) o0 rfl rfl (fun g1 o1 => ns_step (i := 1) (by omega) o1 rfl rfl (fun g2 o2 => ns_step (i := 2) (by omega) o2 rfl rfl (fun g3 o3 => ns_step (i := 3) (by omega) o3 rfl rfl (fun g4 o4 => ns_step (i := 4) (by omega) o4 rfl rfl (fun g5 o5 => ns_step (i := 5) (by omega) o5 rfl rfl (fun g o => ?_)))))))
  obtain ⟨n1, n2, n3, n4⟩ := o
  have xg : ah_x g = t + 13 := by omega
  rintro w rfl h105 rfl
  refine ⟨by omega, ?_⟩
  rintro h112 q112 w116 q116 h118 q118
  have x112 : ah_x h112 = t + 14 := by rw [q112, ah_x_sr, ah_x_nw, xg]
  refine ⟨by omega, ?_⟩
  rintro h125 q125 h129 q129 h133 q133
  have xf : ah_x h133 = t + 15 := by rw [q133, ah_x_si, q129, ah_x_si, q125, ah_x_sr, q118, ah_x_nw, x112]
  have e112 : ∀ c, c ≠ t → c < t + 13 → eqc g h112 c := fun c h1 h2 => by rw [q112]; exact eqc_sr (eqc_nw eqc_rfl (by omega)) h1
  have e133 : ∀ c, c ≠ t → c < t + 14 → eqc h112 h133 c := fun c h1 h2 => by rw [q133, q129, q125, q118]; exact eqc_si (eqc_si (eqc_sr (eqc_nw eqc_rfl (by omega)) h1) h1) h1
  have kn : ∀ c, c < t + 13 → ah_k h133 c = ah_k g c ∧ ah_n h133 c = ah_n g c := fun c hc => by
    rw [q133, ah_k_si, ah_n_si, q129, ah_k_si, ah_n_si, q125, ah_k_sr, ah_n_sr, q118, ah_k_nw, ah_n_nw, if_neg (by omega), if_neg (by omega), q112, ah_k_sr, ah_n_sr, ah_k_nw, ah_n_nw, if_neg (by omega), if_neg (by omega)]
    exact ⟨rfl, rfl⟩
  have rt : ∀ j, ah_r h133 t j = if j = 7 then some (t + 14) else if j = 6 then some (t + 13) else ah_r g t j := fun j => by
    rw [q133, ah_r_si, q129, ah_r_si, q125, ah_r_sr]
    by_cases z : j = 7
    · rw [if_pos ⟨rfl, z⟩, if_pos z, q116, x112]
    · rw [if_neg (fun y => z y.2), if_neg z, q118, ah_r_nw, if_neg (by omega), q112, ah_r_sr]
      by_cases z2 : j = 6
      · rw [if_pos ⟨rfl, z2⟩, if_pos z2, xg]
      · rw [if_neg (fun y => z2 y.2), if_neg z2, ah_r_nw, if_neg (by omega)]
  have k13 : ah_k h133 (t + 13) = 14 ∧ ah_n h133 (t + 13) = 3 := by
    have e := e133 (t + 13) (by omega) (by omega)
    rw [e.2.2.2.1, e.2.2.2.2, q112, ah_k_sr, ah_n_sr, ah_k_nw, ah_n_nw, if_pos xg.symm, if_pos xg.symm]
    exact ⟨rfl, rfl⟩
  have k14 : ah_k h133 (t + 14) = 17 ∧ ah_n h133 (t + 14) = 6 ∧ ∀ j, ah_r h133 (t + 14) j = none := by
    refine ⟨?_, ?_, fun j => ?_⟩
    · rw [q133, ah_k_si, q129, ah_k_si, q125, ah_k_sr, q118, ah_k_nw, if_pos x112.symm]
    · rw [q133, ah_n_si, q129, ah_n_si, q125, ah_n_sr, q118, ah_n_nw, if_pos x112.symm]
    · rw [q133, ah_r_si, q129, ah_r_si, q125, ah_r_sr, if_neg (by omega), q118, ah_r_nw, if_pos x112.symm]
  refine ⟨t + 13, by rw [rt, if_neg (by decide), if_pos rfl], k13.1, by rw [k13.2]; exact (vp_nI (i := 1) (n := 3) (by omega)).mpr (by omega), ?_⟩
  rintro h141 q141
  have e141 : ∀ c, c ≠ t + 13 → eqc h133 h141 c := fun c hc => by rw [q141]; exact eqc_si eqc_rfl hc
  have kf : ∀ c, ah_k h141 c = ah_k h133 c ∧ ah_n h141 c = ah_n h133 c := fun c => by rw [q141]; exact ⟨rfl, rfl⟩
  have rf : ∀ c j, ah_r h141 c j = ah_r h133 c j := fun c j => by rw [q141]; rfl
  refine hq h141 (by rw [q141, ah_x_si, xf]; omega) (fun c hc => eqc_trans (n2 c hc) (eqc_trans (e112 c (by omega) (by omega)) (eqc_trans (e133 c (by omega) (by omega)) (e141 c (by omega))))) ⟨fun i hi => ?_, fun i hi => ?_, ?_, ?_⟩ (fun i hi => ?_) (fun j => by rw [rf]; exact k14.2.2 j)
  · rw [(kf _).1, (kf _).2]
    by_cases z13 : i = 13
    · rw [z13]; exact ⟨k13.1, fun _ => k13.2⟩
    by_cases z14 : i = 14
    · rw [z14]; exact ⟨k14.1, fun _ => k14.2.1⟩
    rw [(kn (t + i) (by omega)).1, (kn (t + i) (by omega)).2]
    by_cases z0 : i = 0
    · rw [z0]; exact ⟨n3, fun y => absurd y (by decide)⟩
    by_cases z1 : i % 2 = 1
    · obtain ⟨j, ej⟩ : ∃ j, i = 2 * j + 1 := ⟨i / 2, by omega⟩
      rw [ej, (n4 j (by omega)).2.1, iK_o j (by omega)]
      exact ⟨rfl, fun y => absurd y (by decide)⟩
    · obtain ⟨j, ej⟩ : ∃ j, i = 2 * j + 2 := ⟨i / 2 - 1, by omega⟩
      rw [ej, (n4 j (by omega)).2.2.1, iK_e j (by omega)]
      exact ⟨rfl, fun _ => (n4 j (by omega)).2.2.2.1⟩
  · obtain ⟨m1, m2, m3, m4, m5, m6, m7⟩ := n4 i hi
    refine ⟨by rw [rf, rt, if_neg (by omega), if_neg (by omega)]; exact m1, ?_⟩
    rw [rf, (e133 _ (by omega) (by omega)).2.2.1, (e112 _ (by omega) (by omega)).2.2.1]
    exact m5
  · rw [rf, rt, if_neg (by decide), if_pos rfl]
  · rw [rf, rt, if_pos rfl]
  · obtain ⟨m1, m2, m3, m4, m5, m6, m7⟩ := n4 i hi
    have e := (eqc_trans (e112 (t + (2 * i + 1)) (by omega) (by omega)) (eqc_trans (e133 _ (by omega) (by omega)) (e141 _ (by omega)))).1
    exact ⟨(e 0).trans m6, (e 1).trans m7⟩
theorem tW_of (tn : Tn TX A h b c o) : tW h b := by
  obtain ⟨q1, q2, q3, q4, q5, q6, _⟩ := tn
  intro i hi
  rcases (show i = 0 ∨ i = 1 ∨ i = 2 ∨ i = 3 ∨ i = 4 ∨ i = 5 by omega) with rfl | rfl | rfl | rfl | rfl | rfl
  · exact ⟨q1.1, q1.2.1⟩
  · exact ⟨q2.1, q2.2.1⟩
  · exact ⟨q3.1, q3.2.1⟩
  · exact ⟨q4.1, q4.2.1⟩
  · exact ⟨q5.1, q5.2.1⟩
  · exact ⟨q6.1, q6.2.1⟩
theorem cp3_cp {room many base : Nat} (hi : i < 6) (bE : bcE a s h g) (eb : ∀ i, i < 15 → eqc g u (a + i)) (tw : tW h a) (er : iRm.getD i 0 = room) (ew : iWd.getD i 0 = 3) (hb : base + 3 * room ≤ 5860) (hm : many < 5860) (cc : ∀ j, j < 5860 → ah_i u c' (o' + j) = ah_i h c (o + j)) (q : cp3 A h (s + (2 * i + 1)) c o room many base) : cp3 A u (a + (2 * i + 1)) c' o' room many base := by
  obtain ⟨q1, q2, q3, q4, q5, q6⟩ := q
  obtain ⟨⟨_, _, _, _, _, b6, b7⟩, _⟩ := bE
  obtain ⟨t1, t2⟩ := tw i hi
  obtain ⟨c1, c2⟩ := b7 i hi
  have e1 := (eb (2 * i + 1) (by omega)).1
  have e2 := (eb (2 * i + 2) (by omega)).1
  have n := (iN_e i hi).2.1
  rw [er, ew] at n
  rw [er] at t1
  rw [ew] at t2
  refine ⟨by rw [e1, b6 i 0 hi (by omega)]; exact t1, by rw [e1, b6 i 1 hi (by omega)]; exact t2, by rw [e1, c1]; exact q3, by rw [cc _ hm]; exact q4, q5, fun j hj => ?_⟩
  obtain ⟨r1, r2, r3⟩ := q6 j hj
  refine ⟨?_, by rw [cc _ (by omega)]; exact r2, r3⟩
  rw [show a + (2 * i + 1) + 1 = a + (2 * i + 2) by omega, e2, c2 j (by omega)]
  exact r1
theorem Tn_cp (hTX : TXp TX) (wf : WF A) (bE : bcE a s h g) (eb : ∀ i, i < 15 → eqc g u (a + i)) (tw : tW h a) (la : lkB h a) (cc : ∀ j, j < 5860 → ah_i u c' (o' + j) = ah_i h c (o + j)) (tx : ∀ x, 123 ≤ x → ah_k h x = 9 ∧ ah_k h (x + 1) = 14 ∧ ah_k h (x + 2) = 14 ∧ ah_k h (x + 3) = 14 → x + 4 ≤ ah_x h → ∀ i, i < 4 → eqc h u (x + i)) (hx : ah_x h ≤ ah_x u) (tn : Tn TX A h s c o) : Tn TX A u a c' o' := by
  obtain ⟨q1, q2, q3, q4, q5, q6, q7, q8⟩ := tn
  have bE' := bE
  obtain ⟨⟨_, _, _, _, _, b6, b7⟩, bt3, br, b8, b9⟩ := bE'
  have rA : ∀ t, ah_r u (a + 14) t = if t < 6 then ah_r h (s + 14) t else ah_r h (a + 14) t := fun t => by rw [(eb 14 (by omega)).2.2.1]; exact br t
  have e0 := (eb 0 (by omega)).1
  rw [Nat.add_zero] at e0
  refine ⟨cp3_cp (i := 0) (by omega) bE eb tw rfl rfl (by omega) (by omega) cc q1, cp3_cp (i := 1) (by omega) bE eb tw rfl rfl (by omega) (by omega) cc q2, cp3_cp (i := 2) (by omega) bE eb tw rfl rfl (by omega) (by omega) cc q3, ?_, cp3_cp (i := 4) (by omega) bE eb tw rfl rfl (by omega) (by omega) cc q5, cp3_cp (i := 5) (by omega) bE eb tw rfl rfl (by omega) (by omega) cc q6, ?_, ?_⟩
  · obtain ⟨p1, p2, p3, p4, p5⟩ := q4
    obtain ⟨w1, w2⟩ := wf.2.2.2.1
    obtain ⟨t1, t2⟩ := tw 3 (by omega)
    obtain ⟨c1, c2⟩ := b7 3 (by omega)
    have e1 := (eb 7 (by omega)).1
    have e2 : ∀ j, j < 38 → ah_i u (a + 7 + 1) j = ah_i h (s + 7 + 1) j := fun j hj => by
      rw [show a + 7 + 1 = a + 8 by omega, (eb 8 (by omega)).1]
      exact c2 j hj
    refine ⟨by rw [e1]; exact (b6 3 0 (by omega) (by omega)).trans t1, by rw [e1]; exact (b6 3 1 (by omega) (by omega)).trans t2, by rw [e1]; exact c1.trans p3, by rw [cc _ (by omega)]; exact p4, fun l hl => ?_⟩
    obtain ⟨w3, w4, w5, w6, w7⟩ := w2 l hl
    obtain ⟨r1, r2, r3, r4, r5, r6, r7, r8, r9⟩ := p5 l hl
    exact ⟨by rw [e2 _ (by omega)]; exact r1, by rw [e2 _ (by omega)]; exact r2, by rw [e2 _ (by omega)]; exact r3, by rw [e2 _ (by omega)]; exact r4, fun i hi => by rw [e2 _ (by omega)]; exact r5 i hi, by rw [cc _ (by omega)]; exact r6, by rw [cc _ (by omega)]; exact r7, by rw [cc _ (by omega)]; exact r8, fun i hi => by rw [cc _ (by omega)]; exact r9 i hi⟩
  · intro j hj
    rw [(eb 13 (by omega)).1, bt3 j hj, cc _ (by omega)]
    exact q7 j hj
  · obtain ⟨r1, r2, r3, r4, r5, r6⟩ := q8
    obtain ⟨w1, w2, w3⟩ := wf.2.2.2.2.2.2.2
    refine ⟨by rw [e0, b8]; exact r1, by rw [e0, b9]; exact r2, by rw [cc _ (by omega)]; exact r3, by rw [cc _ (by omega)]; exact r4, fun t ht => ?_, fun t x ex => ?_⟩
    · obtain ⟨s1, s2, x, s3, s4⟩ := r5 t ht
      obtain ⟨w4, _⟩ := w3 t ht
      refine ⟨by rw [cc _ (by omega)]; exact s1, fun k hk => by rw [cc _ (by omega), cc _ (by omega)]; exact s2 k hk, x, by rw [rA, if_pos (by omega)]; exact s3, ?_⟩
      have f := hTX.2.1 _ _ _ _ _ s4
      exact hTX.1 _ _ _ _ _ _ s4 (tx x f.1 f.2.2 f.2.1) hx
    · rw [rA] at ex
      obtain ⟨a1, a2, a3, a4, a5, a6⟩ : 123 ≤ x ∧ x + 4 ≤ ah_x h ∧ ah_k h x = 9 ∧ ah_k h (x + 1) = 14 ∧ ah_k h (x + 2) = 14 ∧ ah_k h (x + 3) = 14 := by
        by_cases z : t < 6
        · rw [if_pos z] at ex; exact r6 t x ex
        · rw [if_neg z] at ex; exact la t x ex
      have f := tx x a1 ⟨a3, a4, a5, a6⟩ a2
      exact ⟨a1, Nat.le_trans a2 hx, (f 0 (by omega)).2.2.2.1.trans a3, (f 1 (by omega)).2.2.2.1.trans a4, (f 2 (by omega)).2.2.2.1.trans a5, (f 3 (by omega)).2.2.2.1.trans a6⟩
/-- blocks and texts lie apart -/
theorem bl_bl (ta : tB h a) (tb : tB h b) (n : a ≠ b) : a + 15 ≤ b ∨ b + 15 ≤ a := by
  by_cases z : a + 15 ≤ b ∨ b + 15 ≤ a
  · exact z
  · exfalso
    have a0 := (ta.1 0 (by omega)).1
    have b0 := (tb.1 0 (by omega)).1
    rw [Nat.add_zero] at a0 b0
    rcases Nat.lt_or_gt_of_ne n with y | y
    · have q := (ta.1 (b - a) (by omega)).1
      rw [show a + (b - a) = b by omega, b0] at q
      exact iK_10 (b - a) (by omega) (by omega) q.symm
    · have q := (tb.1 (a - b) (by omega)).1
      rw [show b + (a - b) = a by omega, a0] at q
      exact iK_10 (a - b) (by omega) (by omega) q.symm
theorem bl_tx {x : Nat} (tb : tB h b) (q : ah_k h x = 9 ∧ ah_k h (x + 1) = 14 ∧ ah_k h (x + 2) = 14 ∧ ah_k h (x + 3) = 14) : x + 4 ≤ b ∨ b + 15 ≤ x := by
  by_cases z : x + 4 ≤ b ∨ b + 15 ≤ x
  · exact z
  · exfalso
    have b0 : ah_k h b = 10 := (tb.1 0 (by omega)).1
    by_cases y : b ≤ x
    · have q2 := (tb.1 (x - b) (by omega)).1
      rw [show b + (x - b) = x by omega, q.1] at q2
      exact iK_9 (x - b) (by omega) q2.symm
    · rcases (show b = x + 1 ∨ b = x + 2 ∨ b = x + 3 by omega) with e | e | e
      · rw [e, q.2.1] at b0; exact absurd b0 (by decide)
      · rw [e, q.2.2.1] at b0; exact absurd b0 (by decide)
      · rw [e, q.2.2.2] at b0; exact absurd b0 (by decide)
theorem bl_co {x : Nat} (tb : tB h b) (k14 : ah_k h x = 14) (n : ah_n h x = 10240) : x < b ∨ b + 15 ≤ x := by
  by_cases z : x < b ∨ b + 15 ≤ x
  · exact z
  · exfalso
    obtain ⟨q1, q2⟩ := tb.1 (x - b) (by omega)
    rw [show b + (x - b) = x by omega] at q1 q2
    rw [k14] at q1
    exact iN_10 (x - b) (by omega) q1.symm ((q2 (by rw [← q1]; decide)).symm.trans n)
end NT
