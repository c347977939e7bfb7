/-! ===== images: a block of cells becomes another ===== -/
/-- a town's cells: kinds, lengths, links -/
def tB (h : ah_T) (b : Nat) : Prop := (∀ i, i < 15 → ah_k h (b + i) = iK.getD i 0 ∧ (12 < iK.getD i 0 → ah_n h (b + i) = iN.getD i 0)) ∧ (∀ i, i < 6 → ah_r h b i = some (b + (2 * i + 1)) ∧ ah_r h (b + (2 * i + 1)) 2 = some (b + (2 * i + 2))) ∧ ah_r h b 6 = some (b + 13) ∧ ah_r h b 7 = some (b + 14)
def iRm : List Nat := [20, 10, 24, 2, 6, 8]
def iWd : List Nat := [3, 3, 3, 19, 3, 3]
/-- the tables' rooms and widths -/
def tW (h : ah_T) (b : Nat) : Prop := ∀ i, i < 6 → ah_i h (b + (2 * i + 1)) 0 = nI (iRm.getD i 0) ∧ ah_i h (b + (2 * i + 1)) 1 = nI (iWd.getD i 0)
theorem iK_o : ∀ k, k < 6 → iK.getD (2 * k + 1) 0 = 7 := by decide +kernel
theorem iK_e : ∀ k, k < 6 → iK.getD (2 * k + 2) 0 = 14 := by decide +kernel
theorem iN_e : ∀ k, k < 6 → iN.getD (2 * k + 2) 0 < 100 ∧ iN.getD (2 * k + 2) 0 = iRm.getD k 0 * iWd.getD k 0 ∧ iRm.getD k 0 < 100 ∧ iWd.getD k 0 < 100 := by decide +kernel
/-- k tables of the block a are as those of s -/
def bcO (k a s : Nat) (h g : ah_T) : Prop := Sh g ∧ ah_x g = ah_x h ∧ (∀ c, (c < a ∨ a + 15 ≤ c) → eqc h g c) ∧ (∀ c, ah_k g c = ah_k h c ∧ ah_n g c = ah_n h c) ∧ (∀ c j, c ≠ a + 14 → ah_r g c j = ah_r h c j) ∧ (∀ i j, i < 6 → j ≠ 3 → ah_i g (a + (2 * i + 1)) j = ah_i h (a + (2 * i + 1)) j) ∧ ∀ i, i < k → ah_i g (a + (2 * i + 1)) 3 = ah_i h (s + (2 * i + 1)) 3 ∧ ∀ j, j < iN.getD (2 * i + 2) 0 → ah_i g (a + (2 * i + 2)) j = ah_i h (s + (2 * i + 2)) j
/-- all of it is -/
def bcE (a s : Nat) (h g : ah_T) : Prop := bcO 6 a s h g ∧ (∀ j, j < 3 → ah_i g (a + 13) j = ah_i h (s + 13) j) ∧ (∀ j, ah_r g (a + 14) j = if j < 6 then ah_r h (s + 14) j else ah_r h (a + 14) j) ∧ ah_i g a 8 = ah_i h s 8 ∧ ah_i g a 9 = ah_i h s 9
section IM
variable {h g : ah_T} {a s k : Nat}
theorem tB_fr (e : ∀ i, i < 15 → eqc h g (a + i)) (t : tB h a) : tB g a := by
  obtain ⟨t1, t2, t3, t4⟩ := t
  have e0 := (e 0 (by omega)).2.2.1
  rw [Nat.add_zero] at e0
  refine ⟨fun i hi => ?_, fun i hi => ?_, by rw [e0]; exact t3, by rw [e0]; exact t4⟩
  · rw [(e i hi).2.2.2.1, (e i hi).2.2.2.2]; exact t1 i hi
  · rw [e0, (e (2 * i + 1) (by omega)).2.2.1]; exact t2 i hi
theorem tB_kr (kn : ∀ c, ah_k g c = ah_k h c ∧ ah_n g c = ah_n h c) (rr : ∀ i j, i < 14 → ah_r g (a + i) j = ah_r h (a + i) j) (t : tB h a) : tB g a := by
  obtain ⟨t1, t2, t3, t4⟩ := t
  have e0 := fun j => rr 0 j (by omega)
  simp only [Nat.add_zero] at e0
  refine ⟨fun i hi => ?_, fun i hi => ?_, by rw [e0]; exact t3, by rw [e0]; exact t4⟩
  · rw [(kn (a + i)).1, (kn (a + i)).2]; exact t1 i hi
  · rw [e0, rr (2 * i + 1) 2 (by omega)]; exact t2 i hi
theorem tB_own (hs : Sh h) : tB h 1 := by
  have q : ∀ i, i < 15 → 1 + i < 123 ∧ sh_K (1 + i) = iK.getD i 0 ∧ (12 < iK.getD i 0 → sh_N (1 + i) = iN.getD i 0) := by decide +kernel
  refine ⟨fun i hi => ?_, fun i hi => ?_, hs.2.1 (1, 6, 14) (by decide +kernel), hs.2.1 (1, 7, 15) (by decide +kernel)⟩
  · obtain ⟨q1, q2, q3⟩ := q i hi
    obtain ⟨s1, s2⟩ := hs.1 (1 + i) q1
    refine ⟨s1.trans q2, fun z => ?_⟩
    rw [q2] at s2
    exact (s2 z).trans (q3 z)
  · rcases (show i = 0 ∨ i = 1 ∨ i = 2 ∨ i = 3 ∨ i = 4 ∨ i = 5 by omega) with rfl | rfl | rfl | rfl | rfl | rfl
    · exact ⟨hs.2.1 (1, 0, 2) (by decide +kernel), hs.2.1 (2, 2, 3) (by decide +kernel)⟩
    · exact ⟨hs.2.1 (1, 1, 4) (by decide +kernel), hs.2.1 (4, 2, 5) (by decide +kernel)⟩
    · exact ⟨hs.2.1 (1, 2, 6) (by decide +kernel), hs.2.1 (6, 2, 7) (by decide +kernel)⟩
    · exact ⟨hs.2.1 (1, 3, 8) (by decide +kernel), hs.2.1 (8, 2, 9) (by decide +kernel)⟩
    · exact ⟨hs.2.1 (1, 4, 10) (by decide +kernel), hs.2.1 (10, 2, 11) (by decide +kernel)⟩
    · exact ⟨hs.2.1 (1, 5, 12) (by decide +kernel), hs.2.1 (12, 2, 13) (by decide +kernel)⟩
theorem sh_lk (hc : a = 15 ∨ a = 16 ∨ 123 ≤ a) {j : Nat} {x : Option Nat} (hs : Sh h) : Sh (ah_sr h a j x) := by
  refine sh_sr hs (List.all_eq_true.mpr fun q hq => ?_)
  have z : sh_R.all (fun q => decide (q.1 < 123) && (!(q.1 == 15) && !(q.1 == 16))) = true := by decide +kernel
  have y := List.all_eq_true.mp z q hq
  rw [Bool.and_eq_true, Bool.and_eq_true, decide_eq_true_eq, Bool.not_eq_true', beq_eq_false_iff_ne, Bool.not_eq_true', beq_eq_false_iff_ne] at y
  rw [Bool.not_eq_true', Bool.and_eq_false_iff]
  exact .inl (beq_eq_false_iff_ne.mpr (by omega))
theorem bc_step {Q : Option Value → ah_T → Prop} (hk : k < 6) (ds : s + 15 ≤ a ∨ a + 15 ≤ s) (ta : tB h a) (ts : tB h s) (o : bcO k a s h g) (hq : ∀ g', bcO (k + 1) a s h g' → (∀ j, ah_r g' (a + 14) j = ah_r g (a + 14) j) → Q none g') : Mt mX7_become [.ref (a + (2 * k + 1)), .ref (s + (2 * k + 1))] g Q := by
  obtain ⟨sg, xg, eo, kn, rr, f3, cp⟩ := o
  obtain ⟨N, eN⟩ : ∃ N, N = iN.getD (2 * k + 2) 0 := ⟨_, rfl⟩
  have hN : N < 100 := by rw [eN]; exact (iN_e k hk).1
  have kt : ah_k g (a + (2 * k + 1)) = 7 := by rw [(kn _).1, (ta.1 (2 * k + 1) (by omega)).1]; exact iK_o k hk
  have ks : ah_k g (s + (2 * k + 1)) = 7 := by rw [(kn _).1, (ts.1 (2 * k + 1) (by omega)).1]; exact iK_o k hk
  have kt1 : ah_k g (a + (2 * k + 2)) = 14 := by rw [(kn _).1, (ta.1 (2 * k + 2) (by omega)).1]; exact iK_e k hk
  have ks1 : ah_k g (s + (2 * k + 2)) = 14 := by rw [(kn _).1, (ts.1 (2 * k + 2) (by omega)).1]; exact iK_e k hk
  have nt : ah_n g (a + (2 * k + 2)) = N := by rw [(kn _).2, (ta.1 (2 * k + 2) (by omega)).2 (by rw [iK_e k hk]; omega), eN]
  have ns : ah_n g (s + (2 * k + 2)) = N := by rw [(kn _).2, (ts.1 (2 * k + 2) (by omega)).2 (by rw [iK_e k hk]; omega), eN]
  have rt : ah_r g (a + (2 * k + 1)) 2 = some (a + (2 * k + 2)) := by rw [rr _ _ (by omega)]; exact (ta.2.1 k hk).2
  have rs : ah_r g (s + (2 * k + 1)) 2 = some (s + (2 * k + 2)) := by rw [rr _ _ (by omega)]; exact (ts.2.1 k hk).2
  have z0 : Int32.toNatClampNeg 0 = 0 := rfl
  refine T_X7_become sg (a + (2 * k + 1)) (a + (2 * k + 2)) (s + (2 * k + 1)) kt kt1 rt ks ⟨s + (2 * k + 2), rs, ks1, ?_⟩
  rw [ns, nt, nI_ofNat, z0, nI_clamp (show N < 2 ^ 31 by omega)]
  refine ⟨fun y => absurd rfl y, fun _ => ⟨nI_pos (by omega), by omega, by omega, ?_⟩⟩
  rintro h8 rfl h17 rfl
  refine hq _ ⟨sh_si (sh_sa sg), by rw [ah_x_si]; exact xg, fun c hc => eqc_trans (eo c hc) (eqc_si (eqc_sa eqc_rfl (by omega)) (by omega)), fun c => kn c, fun c j n => rr c j n, fun i j hi hj => ?_, fun i hi => ?_⟩ (fun _ => rfl)
  · rw [ah_i_sn (by omega), ah_i_sa, if_neg (by omega)]
    exact f3 i j hi hj
  · by_cases z : i = k
    · subst z
      refine ⟨by rw [ah_i_ss, ah_i_sa, if_neg (by omega)]; exact (eo _ (by omega)).1 3, fun j hj => ?_⟩
      rw [ah_i_sn (by omega), ah_i_sa, if_pos rfl]
      unfold va_cpy
      rw [if_pos (by omega), show 0 + (j - 0) = j by omega]
      exact (eo _ (by omega)).1 j
    · obtain ⟨c1, c2⟩ := cp i (by omega)
      refine ⟨by rw [ah_i_sn (by omega), ah_i_sa, if_neg (by omega)]; exact c1, fun j hj => ?_⟩
      rw [ah_i_sn (by omega), ah_i_sa, if_neg (by omega)]
      exact c2 j hj
theorem bcO_a {j : Nat} {x : Int32} (o : bcO k a s h g) : bcO k a s h (ah_si g a j x) := by
  obtain ⟨sg, xg, eo, kn, rr, f3, cp⟩ := o
  refine ⟨sh_si sg, by rw [ah_x_si]; exact xg, fun c hc => eqc_si (eo c hc) (by omega), fun c => kn c, fun c j n => rr c j n, fun i j hi hj => ?_, fun i hi => ⟨?_, fun j hj => ?_⟩⟩
  · rw [ah_i_sn (by omega)]; exact f3 i j hi hj
  · rw [ah_i_sn (by omega)]; exact (cp i hi).1
  · rw [ah_i_sn (by omega)]; exact (cp i hi).2 j hj
theorem bcO_l {j : Nat} {x : Option Nat} (hc : a = 1 ∨ 123 ≤ a) (o : bcO k a s h g) : bcO k a s h (ah_sr g (a + 14) j x) := by
  obtain ⟨sg, xg, eo, kn, rr, f3, cp⟩ := o
  exact ⟨sh_lk (by omega) sg, xg, fun c hc => eqc_sr (eo c hc) (by omega), fun c => kn c, fun c j n => by rw [ah_r_sr, if_neg (fun y => n y.1)]; exact rr c j n, fun i j hi hj => f3 i j hi hj, fun i hi => cp i hi⟩
theorem bcO_t {f : Nat → Int32} (o : bcO k a s h g) (hk : k ≤ 6) : bcO k a s h (ah_sa g (a + 13) f) := by
  obtain ⟨sg, xg, eo, kn, rr, f3, cp⟩ := o
  refine ⟨sh_sa sg, xg, fun c hc => eqc_sa (eo c hc) (by omega), fun c => kn c, fun c j n => rr c j n, fun i j hi hj => ?_, fun i hi => ⟨?_, fun j hj => ?_⟩⟩
  · rw [ah_i_sa, if_neg (by omega)]; exact f3 i j hi hj
  · rw [ah_i_sa, if_neg (by omega)]; exact (cp i hi).1
  · rw [ah_i_sa, if_neg (by omega)]; exact (cp i hi).2 j hj
theorem c_become {Q : Option Value → ah_T → Prop} (hs : Sh h) (hc : a = 1 ∨ 123 ≤ a) (ds : s + 15 ≤ a ∨ a + 15 ≤ s) (ta : tB h a) (ts : tB h s) (lk : ∀ t x, ah_r h (s + 14) t = some x → ah_k h x = 9) (hq : ∀ g, bcE a s h g → Q none g) : Mt mX10_become [.ref a, .ref s] h Q := by
  have K : ∀ {k g}, bcO k a s h g → ah_k g a = 10 ∧ ah_k g s = 10 ∧ (∀ i, i < 6 → ah_r g a i = some (a + (2 * i + 1))) ∧ (∀ i, i < 6 → ah_k g (a + (2 * i + 1)) = 7) ∧ (∀ i, i < 6 → ah_r g s i = some (s + (2 * i + 1))) ∧ ∀ i, i < 6 → ah_k g (s + (2 * i + 1)) = 7 := by
    intro k g o
    obtain ⟨sg, xg, eo, kn, rr, f3, cp⟩ := o
    refine ⟨?_, ?_, fun i hi => ?_, fun i hi => ?_, fun i hi => ?_, fun i hi => ?_⟩
    · rw [(kn a).1]; exact (ta.1 0 (by omega)).1
    · rw [(kn s).1]; exact (ts.1 0 (by omega)).1
    · rw [rr _ _ (by omega)]; exact (ta.2.1 i hi).1
    · rw [(kn _).1, (ta.1 (2 * i + 1) (by omega)).1]; exact iK_o i hi
    · rw [rr _ _ (by omega)]; exact (ts.2.1 i hi).1
    · rw [(kn _).1, (ts.1 (2 * i + 1) (by omega)).1]; exact iK_o i hi
  have o0 : bcO 0 a s h h := ⟨hs, rfl, fun _ _ => eqc_rfl, fun _ => ⟨rfl, rfl⟩, fun _ _ _ => rfl, fun _ _ _ _ => rfl, fun i hi => absurd hi (by omega)⟩
  have z0 : Int32.toNatClampNeg 0 = 0 := rfl
  have z3 : Int32.toNatClampNeg 3 = 3 := rfl
  -- texts
  have lp : ∀ (q j : Nat) (g : ah_T), j + q = 6 → bcO 6 a s h g → (∀ i, i < 3 → ah_i g (a + 13) i = ah_i h (s + 13) i) → (∀ t, ah_r g (a + 14) t = if t < j then ah_r h (s + 14) t else ah_r h (a + 14) t) → Wp mX10_become Q 0 0 82 [some (.ref a), some (.ref s), some (.int (nI j))] [] g := by
    intro q
    induction q with
    | zero =>
      intro j g hj o t3 l
      obtain ⟨ka, ks, _⟩ := K o
      have e9 : j = 6 := by omega
      subst e9
      refine T_X10_become_82 o.1 a s _ ka ks ?_
      (first | refine ⟨fun _ => ?_, fun n_ => absurd (show 6 ≤ nI 6 from nI_le (a := 6) (by omega) (by omega)) n_⟩ | refine ⟨fun n_ => absurd (show 6 ≤ nI 6 from nI_le (a := 6) (by omega) (by omega)) n_, fun _ => ?_⟩ | refine ⟨fun y_ => absurd y_ (show 6 ≤ nI 6 from nI_le (a := 6) (by omega) (by omega)), fun _ => ?_⟩ | refine ⟨fun _ => ?_, fun y_ => absurd y_ (show 6 ≤ nI 6 from nI_le (a := 6) (by omega) (by omega))⟩)
      rintro h193 rfl h198 rfl
      have es := o.2.2.1 s (by omega)
      refine hq _ ⟨bcO_a (bcO_a o), fun i hi => ?_, fun t => l t, ?_, ?_⟩
      · rw [ah_i_sn (by omega), ah_i_sn (by omega)]; exact t3 i hi
      · rw [ah_i_sn (by omega), ah_i_ss]; exact es.1 8
      · rw [ah_i_ss, ah_i_sn (by omega)]; exact es.1 9
    | succ q ih =>
      intro j g hj o t3 l
      obtain ⟨ka, ks, _⟩ := K o
      have o' := o
      obtain ⟨sg, xg, eo, kn, rr, f3, cp⟩ := o'
      have k17 : ∀ b, tB h b → ah_k g (b + 14) = 17 := fun b tb => by rw [(kn _).1, (tb.1 14 (by omega)).1]; rfl
      have n17 : ∀ b, tB h b → ah_n g (b + 14) = 6 := fun b tb => by rw [(kn _).2, (tb.1 14 (by omega)).2 (by decide)]; rfl
      have es14 : ∀ t, ah_r g (s + 14) t = ah_r h (s + 14) t := (eo (s + 14) (by omega)).2.2.1
      refine T_X10_become_82 sg a s _ ka ks ?_
      (first | refine ⟨fun _ => ?_, fun n_ => absurd (show ¬ 6 ≤ nI j from nI_ge (b := 6) (by omega) (by omega)) n_⟩ | refine ⟨fun n_ => absurd (show ¬ 6 ≤ nI j from nI_ge (b := 6) (by omega) (by omega)) n_, fun _ => ?_⟩ | refine ⟨fun y_ => absurd y_ (show ¬ 6 ≤ nI j from nI_ge (b := 6) (by omega) (by omega)), fun _ => ?_⟩ | refine ⟨fun _ => ?_, fun y_ => absurd y_ (show ¬ 6 ≤ nI j from nI_ge (b := 6) (by omega) (by omega))⟩)
      refine ⟨a + 14, by rw [rr _ _ (by omega)]; exact ta.2.2.2, k17 a ta, s + 14, by rw [rr _ _ (by omega)]; exact ts.2.2.2, k17 s ts, ?_⟩
      rw [n17 a ta, n17 s ts, nI_clamp (show j < 2 ^ 31 by omega), es14, nI_1]
      have vj : vp_in (nI j) 6 := (vp_nI (by omega)).mpr (by omega)
      have nx : ∀ (x : Option Nat), ah_r h (s + 14) j = x → Wp mX10_become Q 0 0 82 [some (.ref a), some (.ref s), some (.int (nI (j + 1)))] [] (ah_sr g (a + 14) j x) := by
        intro x ex
        refine ih (j + 1) _ (by omega) (bcO_l hc o) t3 (fun t => ?_)
        rw [ah_r_sr]
        by_cases z : t = j
        · subst z
          rw [if_pos ⟨rfl, rfl⟩, if_pos (by omega), ex]
        · rw [if_neg (fun y => z y.2), l t]
          by_cases z2 : t < j
          · rw [if_pos z2, if_pos (by omega)]
          · rw [if_neg z2, if_neg (by omega)]
      refine ⟨vj, fun e => ⟨vj, ?_⟩, fun b e => ⟨?_, vj, ?_⟩⟩
      · rintro h214 rfl
        exact nx _ e
      · rw [(kn b).1]; exact lk j b e
      · rintro h224 rfl
        exact nx _ e
  obtain ⟨ka, ks, ra, kka, rs, kks⟩ := K o0
  refine T_X10_become hs a s ka ks ⟨_, ra 0 (by decide), kka 0 (by decide), _, rs 0 (by decide), kks 0 (by decide), bc_step (k := 0) (by omega) ds ta ts o0 (fun g1 o1 w1 => ⟨rfl, o1.1, ?_⟩)⟩
  obtain ⟨ka, ks, ra, kka, rs, kks⟩ := K o1
  repeat (refine ⟨by first | exact ka | exact ks | exact ra _ (by decide) | exact kka _ (by decide) | exact rs _ (by decide) | exact kks _ (by decide), ?_⟩)
  refine ⟨_, ra 1 (by decide), kka 1 (by decide), _, rs 1 (by decide), kks 1 (by decide), bc_step (k := 1) (by omega) ds ta ts o1 (fun g2 o2 w2 => ⟨rfl, o2.1, ?_⟩)⟩
  obtain ⟨ka, ks, ra, kka, rs, kks⟩ := K o2
  repeat (refine ⟨by first | exact ka | exact ks | exact ra _ (by decide) | exact kka _ (by decide) | exact rs _ (by decide) | exact kks _ (by decide), ?_⟩)
  refine ⟨_, ra 2 (by decide), kka 2 (by decide), _, rs 2 (by decide), kks 2 (by decide), bc_step (k := 2) (by omega) ds ta ts o2 (fun g3 o3 w3 => ⟨rfl, o3.1, ?_⟩)⟩
  obtain ⟨ka, ks, ra, kka, rs, kks⟩ := K o3
  repeat (refine ⟨by first | exact ka | exact ks | exact ra _ (by decide) | exact kka _ (by decide) | exact rs _ (by decide) | exact kks _ (by decide), ?_⟩)
  refine ⟨_, ra 3 (by decide), kka 3 (by decide), _, rs 3 (by decide), kks 3 (by decide), bc_step (k := 3) (by omega) ds ta ts o3 (fun g4 o4 w4 => ⟨rfl, o4.1, ?_⟩)⟩
  obtain ⟨ka, ks, ra, kka, rs, kks⟩ := K o4
  repeat (refine ⟨by first | exact ka | exact ks | exact ra _ (by decide) | exact kka _ (by decide) | exact rs _ (by decide) | exact kks _ (by decide), ?_⟩)
  refine ⟨_, ra 4 (by decide), kka 4 (by decide), _, rs 4 (by decide), kks 4 (by decide), bc_step (k := 4) (by omega) ds ta ts o4 (fun g5 o5 w5 => ⟨rfl, o5.1, ?_⟩)⟩
  obtain ⟨ka, ks, ra, kka, rs, kks⟩ := K o5
  repeat (refine ⟨by first | exact ka | exact ks | exact ra _ (by decide) | exact kka _ (by decide) | exact rs _ (by decide) | exact kks _ (by decide), ?_⟩)
  refine ⟨_, ra 5 (by decide), kka 5 (by decide), _, rs 5 (by decide), kks 5 (by decide), bc_step (k := 5) (by omega) ds ta ts o5 (fun g6 o6 w6 => ⟨rfl, o6.1, ?_⟩)⟩
  obtain ⟨ka, ks, ra, kka, rs, kks⟩ := K o6
  repeat (refine ⟨by first | exact ka | exact ks | exact ra _ (by decide) | exact kka _ (by decide) | exact rs _ (by decide) | exact kks _ (by decide), ?_⟩)
  have o' := o6
  obtain ⟨sg, xg, eo, kn, rr, f3, cp⟩ := o'
  have k13 : ∀ b, tB h b → ah_k g6 (b + 13) = 14 := fun b tb => by rw [(kn _).1, (tb.1 13 (by omega)).1]; rfl
  have n13 : ∀ b, tB h b → ah_n g6 (b + 13) = 3 := fun b tb => by rw [(kn _).2, (tb.1 13 (by omega)).2 (by decide)]; rfl
  refine ⟨s + 13, by rw [rr _ _ (by omega)]; exact ts.2.2.1, k13 s ts, a + 13, by rw [rr _ _ (by omega)]; exact ta.2.2.1, k13 a ta, ?_⟩
  rw [n13 s ts, n13 a ta, z0, z3]
  refine ⟨by omega, by omega, ?_⟩
  rintro h159 rfl
  refine lp 6 0 _ (by omega) (bcO_t o6 (by omega)) (fun i hi => ?_) (fun t => ?_)
  · rw [ah_i_sa, if_pos rfl]
    unfold va_cpy
    rw [if_pos (by omega), show 0 + (i - 0) = i by omega]
    exact (eo _ (by omega)).1 i
  · rw [if_neg (by omega)]
    show ah_r g6 (a + 14) t = _
    rw [w6, w5, w4, w3, w2, w1]
end IM
