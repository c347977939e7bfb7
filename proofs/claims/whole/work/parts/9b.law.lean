/-! ===== law on both sides ===== -/
theorem Sc_rf {h hC hM : ah_T} {x : Int32} {p q : Nat} (hw : isWhy x p q) (old : Sc h) (c18 : ∀ j, ah_i hC 18 j = ah_i h 18 j) (e18 : ∀ j, ah_i hM 18 j = ah_i (cRf hC x p) 18 j) (e83 : ∀ j, ah_i hM 83 j = ah_i h 83 j) (e0 : ah_i hM 0 17 = x) (f15 : ah_i hM 0 15 = ah_i hM 82 6) (f14 : ah_i hM 0 14 = ah_i hM 82 12) (f16 : ah_i hM 0 16 = ah_i hM 82 66) : Sc (mRf hM x q) := by
  have g18 : ∀ j, ah_i hM 18 j = if j = p then ah_i h 18 p + 1 else ah_i h 18 j := fun j => by
    rw [e18]
    unfold cRf
    rw [ah_i_si, ah_i_sn (by omega)]
    simp only [c18, true_and]
  have g83 : ∀ j, ah_i (mRf hM x q) 83 j = if j = q then ah_i h 83 q + 1 else ah_i h 83 j := fun j => by
    unfold mRf
    rw [ah_i_si, ah_i_sn (by omega)]
    simp only [e83, true_and]
  have k0 : ∀ j, ah_i (mRf hM x q) 0 j = ah_i hM 0 j := fun j => (eqc_mRf (by decide) (by decide)).1 j
  have k18 : ∀ j, ah_i (mRf hM x q) 18 j = ah_i hM 18 j := fun j => (eqc_mRf (by decide) (by decide)).1 j
  have k82 : ∀ j, j ≠ 0 → ah_i (mRf hM x q) 82 j = ah_i hM 82 j := fun j hj => by unfold mRf; rw [ah_i_sn (by omega), ah_i_sn (by omega)]
  have k820 : ah_i (mRf hM x q) 82 0 = x := by unfold mRf; rw [ah_i_sn (by omega), ah_i_ss]
  obtain ⟨o1, o2, o3, o4, o5, o6, o7, o8, o9⟩ := old
  refine ⟨by rw [k0, k820, e0], ?_, ?_, ?_, ?_, ?_, by rw [k0, k82 6 (by decide)]; exact f15, by rw [k0, k82 12 (by decide)]; exact f14, by rw [k0, k82 66 (by decide)]; exact f16⟩
  all_goals
    rw [k18, g18, g83]
    rcases hw with ⟨rfl, rfl, rfl⟩ | ⟨rfl, rfl, rfl⟩ | ⟨rfl, rfl, rfl⟩ | ⟨rfl, rfl, rfl⟩ | ⟨rfl, rfl, rfl⟩ <;> simp [o2, o3, o4, o5, o6]
/-- the invariant behind a call that changes nothing of the town -/
theorem inv_same {TX : ah_T → Nat → (Nat → Nat) → (Nat → Nat) → Nat → Prop} {CC : (Nat → Nat) → ah_T → Prop} {CM : Nat → (Nat → Nat) → ah_T → Prop} {A B0 B1 : Nat → Nat} {h h2 : ah_T} {n d' : Nat} {D' : Nat → Nat} (hTX : TXp TX) (hCC : CCp CC) (hCM : CMp CM) (wf : WF A) (tn : Tn TX A h 1 84 0) (im : Im TX B0 B1 h) (dr : Dr h) (cc : CC A h) (cm : CM (n + 1) A h)
    (hs2 : Sh h2) (e : ∀ a, (stayG h a ∨ (1 ≤ a ∧ a ≤ 15) ∨ a = 84) → eqc h h2 a) (ex : ah_x h ≤ ah_x h2) (sc2 : Sc h2) (tp2 : Tp d' D' h2) (wb : wB h → wB h2) (f77 : ah_i h2 82 77 = ah_i h 82 77) (f19 : ah_i h2 0 19 = ah_i h 0 19) (f18 : ah_i h2 0 18 = ah_i h 0 18)
    (ver : ah_i h2 82 1 = ah_i h 82 1) (g82 : ∀ j, (j = 29 ∨ j = 49 ∨ j = 60 ∨ j = 61 ∨ j = 62) → ah_i h2 82 j = ah_i h 82 j) : Inv TX CC CM n h2 := by
  have eg : ∀ a, stayG h a → eqc h h2 a := fun a ha => e a (.inl ha)
  refine ⟨hs2, A, B0, B1, d', D', wf, ?_, ?_, sc2, tp2, ?_, ?_, ?_⟩
  · exact Tn_fr wf hTX (fun i hi => e _ (.inr (.inl (by omega)))) (e 84 (.inr (.inr rfl))) (fun x h1 _ h2 i hi => eg _ (by unfold stayG; omega)) ex tn
  · exact Im_fr hTX (fun a h1 h2 => eg a (by unfold stayG; omega)) (eg 16 (by unfold stayG; omega)) (eg 85 (by unfold stayG; omega)) (eg 86 (by unfold stayG; omega)) ex im
  · unfold Dr
    rw [f77]
    simp only [(eg 19 (by unfold stayG; omega)).1, (eg 122 (by unfold stayG; omega)).1]
    exact dr
  · exact hCC.1 _ _ _ cc (agC_w (fun a h1 h2 => eg a (by unfold stayG; omega)) (fun a h1 h2 => eg a (by unfold stayG; omega)) ex wb) f18 f19
  · exact hCM.2.1 _ _ _ (hCM.1 _ _ _ _ cm ⟨fun a ha => eg a (by unfold stayG; omega), g82⟩ ver)
/-- the model's words -/
def CMw (CM : Nat → (Nat → Nat) → ah_T → Prop) : Prop := ∀ n A h, CM n A h → ∀ j, j < mBy.length → ah_i h 87 j = nI (mBy.getD j 0)
theorem n_87 {h : ah_T} (hs : Sh h) : ah_n h 87 = mBy.length := (sh_n hs 87 134 (by decide) (by decide) rfl).trans (by decide +kernel)
section LW
variable {CC : (Nat → Nat) → ah_T → Prop} {CM : Nat → (Nat → Nat) → ah_T → Prop} {n : Nat}
theorem wf_lay {A : Nat → Nat} {cs vs : Nat → Nat} {m : Nat} (wf : WF A) (h6 : A 251 < 6) (hm : m ≤ 400) (hc : ∀ k, k < m → cs k < 400 ∧ vs k < 2 ^ 31) : WF (up (layA (A 251) m cs vs A) 251 (A 251 + 1)) := by
  have lo : ∀ j, j < 251 → up (layA (A 251) m cs vs A) 251 (A 251 + 1) j = A j := fun j hj => by
    rw [up_n (by omega)]
    unfold layA
    rw [if_neg (by omega), if_neg (by omega), if_neg (by omega)]
  refine ⟨wfW_fr (fun j hj => lo j (by omega)) (lo _ (by omega)) wf.1, wfL_fr (fun j _ hj => lo j (by omega)) (lo _ (by omega)) wf.2.1, wfS_fr (fun j _ hj => lo j (by omega)) (lo _ (by omega)) (by rw [lo _ (by omega)]; exact Nat.le_refl _) wf.2.2.1, wfN_fr (fun j _ hj => lo j (by omega)) (lo _ (by omega)) wf.2.2.2.1, wfE_fr (fun j _ hj => lo j (by omega)) (lo _ (by omega)) wf.2.2.2.2.1, wfO_fr (fun j _ hj => lo j (by omega)) (lo _ (by omega)) (by rw [lo _ (by omega)]; exact Nat.le_refl _) wf.2.2.2.2.2.1, wfT_fr (fun j _ hj => lo j (by omega)) wf.2.2.2.2.2.2.1, ?_⟩
  obtain ⟨w1, w2, w3⟩ := wf.2.2.2.2.2.2.2
  have e252 : up (layA (A 251) m cs vs A) 251 (A 251 + 1) 252 = A 252 := by
    rw [up_n (by omega)]; unfold layA; rw [if_neg (by omega), if_neg (by omega), if_neg (by omega)]
  refine ⟨by rw [up_s]; omega, by rw [up_s, e252]; omega, fun t ht => ?_⟩
  rw [up_s] at ht
  have en : up (layA (A 251) m cs vs A) 251 (A 251 + 1) (253 + t) = if t = A 251 then m else A (253 + t) := by
    rw [up_n (by omega)]; unfold layA
    by_cases e : t = A 251
    · rw [if_pos (by omega), if_pos e]
    · rw [if_neg (by omega), if_neg (by omega), if_neg (by omega), if_neg e]
  rw [en]
  by_cases e : t = A 251
  · rw [if_pos e]
    refine ⟨hm, fun k hk => ?_⟩
    have q1 : up (layA (A 251) m cs vs A) 251 (A 251 + 1) (260 + 400 * t + k) = cs k := by
      rw [up_n (by omega)]; unfold layA
      rw [if_neg (by omega), if_pos (by omega)]
      congr 1
      omega
    have q2 : up (layA (A 251) m cs vs A) 251 (A 251 + 1) (3060 + 400 * t + k) = vs k := by
      rw [up_n (by omega)]; unfold layA
      rw [if_neg (by omega), if_neg (by omega), if_pos (by omega)]
      congr 1
      omega
    rw [q1, q2]
    exact hc k hk
  · rw [if_neg e]
    obtain ⟨w4, w5⟩ := w3 t (by omega)
    refine ⟨w4, fun k hk => ?_⟩
    have q1 : up (layA (A 251) m cs vs A) 251 (A 251 + 1) (260 + 400 * t + k) = A (260 + 400 * t + k) := by
      rw [up_n (by omega)]; unfold layA
      rw [if_neg (by omega), if_neg (by omega), if_neg (by omega)]
    have q2 : up (layA (A 251) m cs vs A) 251 (A 251 + 1) (3060 + 400 * t + k) = A (3060 + 400 * t + k) := by
      rw [up_n (by omega)]; unfold layA
      rw [if_neg (by omega), if_neg (by omega), if_neg (by omega)]
    rw [q1, q2]
    exact w5 k hk
/-- the town with a law more -/
theorem Tn_law {A : Nat → Nat} {h h2 : ah_T} {cs vs : Nat → Nat} {m x : Nat} (wf : WF A) (tn : Tn TXm A h 1 84 0) (h6 : A 251 < 6) (hm : m ≤ 400) (tx2 : TXm h2 x cs vs m) (ex : ah_x h ≤ ah_x h2)
    (e : ∀ a, (2 ≤ a ∧ a ≤ 14) → eqc h h2 a) (eo : ∀ a, 123 ≤ a → a < ah_x h → eqc h h2 a) (e1 : ∀ j, j ≠ 8 → ah_i h2 1 j = ah_i h 1 j) (e18 : ah_i h2 1 8 = nI (A 251 + 1)) (e15 : ∀ j, ah_r h2 15 j = if j = A 251 then some x else ah_r h 15 j)
    (e84 : ∀ j, ah_i h2 84 j = if j = 251 then nI (A 251 + 1) else layI (A 251) m cs vs (ah_i h 84) j) : Tn TXm (up (layA (A 251) m cs vs A) 251 (A 251 + 1)) h2 1 84 0 := by
  have lo : ∀ j, j < 251 → ah_i h2 84 (0 + j) = ah_i h 84 (0 + j) ∧ up (layA (A 251) m cs vs A) 251 (A 251 + 1) j = A j := fun j hj => by
    rw [up_n (by omega), Nat.zero_add, e84, if_neg (by omega)]
    unfold layA layI
    rw [if_neg (by omega), if_neg (by omega), if_neg (by omega), if_neg (by omega), if_neg (by omega), if_neg (by omega)]
    exact ⟨rfl, rfl⟩
  obtain ⟨q1, q2, q3, q4, q5, q6, q7, q8⟩ := tn
  refine ⟨cp3_fr (e 2 (by omega)).1 (e 3 (by omega)).1 (fun j hj => lo j (by omega)) q1, cp3_fr (e 4 (by omega)).1 (e 5 (by omega)).1 (fun j hj => lo j (by omega)) q2, cp3_fr (e 6 (by omega)).1 (e 7 (by omega)).1 (fun j hj => lo j (by omega)) q3, cpL_fr wf.2.2.2.1 (e 8 (by omega)).1 (e 9 (by omega)).1 (fun j hj => lo j (by omega)) q4, cp3_fr (e 10 (by omega)).1 (e 11 (by omega)).1 (fun j hj => lo j (by omega)) q5, cp3_fr (e 12 (by omega)).1 (e 13 (by omega)).1 (fun j hj => lo j (by omega)) q6, cpT_fr (e 14 (by omega)).1 (fun j hj => lo j (by omega)) q7, ?_⟩
  obtain ⟨r1, r2, r3, r4, r5, r6⟩ := q8
  simp only [Nat.zero_add] at r3 r4 r5
  have e252 : up (layA (A 251) m cs vs A) 251 (A 251 + 1) 252 = A 252 := by
    rw [up_n (by omega)]; unfold layA; rw [if_neg (by omega), if_neg (by omega), if_neg (by omega)]
  have lk2 : lkB h2 1 := by
    intro t y hy
    rw [show 1 + 14 = 15 from rfl, e15] at hy
    by_cases et : t = A 251
    · rw [if_pos et] at hy
      cases hy
      exact TXmp.2.1 _ _ _ _ _ tx2
    · rw [if_neg et] at hy
      obtain ⟨a1, a2, a3, a4, a5, a6⟩ := r6 t y hy
      exact ⟨a1, Nat.le_trans a2 ex, (eo y (by omega) (by omega)).2.2.2.1.trans a3, (eo (y + 1) (by omega) (by omega)).2.2.2.1.trans a4, (eo (y + 2) (by omega) (by omega)).2.2.2.1.trans a5, (eo (y + 3) (by omega) (by omega)).2.2.2.1.trans a6⟩
  unfold cpW
  rw [up_s, e252]
  simp only [Nat.zero_add]
  refine ⟨e18, by rw [e1 9 (by omega)]; exact r2, by rw [e84, if_pos rfl], ?_, fun t ht => ?_, lk2⟩
  · rw [e84, if_neg (by omega)]
    unfold layI
    rw [if_neg (by omega), if_neg (by omega), if_neg (by omega)]
    exact r4
  · obtain ⟨w1, w2, w3⟩ := wf.2.2.2.2.2.2.2
    by_cases et : t = A 251
    · have a1 : up (layA (A 251) m cs vs A) 251 (A 251 + 1) (253 + t) = m := by rw [up_n (by omega)]; unfold layA; rw [if_pos (by omega)]
      have a2 : ∀ k, k < m → up (layA (A 251) m cs vs A) 251 (A 251 + 1) (260 + 400 * t + k) = cs k := fun k hk => by
        rw [up_n (by omega)]; unfold layA
        rw [if_neg (by omega), if_pos (by omega)]
        congr 1
        omega
      have a3 : ∀ k, k < m → up (layA (A 251) m cs vs A) 251 (A 251 + 1) (3060 + 400 * t + k) = vs k := fun k hk => by
        rw [up_n (by omega)]; unfold layA
        rw [if_neg (by omega), if_neg (by omega), if_pos (by omega)]
        congr 1
        omega
      rw [a1]
      refine ⟨?_, fun k hk => ?_, x, by rw [e15, if_pos et], ?_⟩
      · rw [e84, if_neg (by omega)]; unfold layI; rw [if_pos (by omega)]
      · rw [a2 k hk, a3 k hk, e84, if_neg (by omega), e84, if_neg (by omega)]
        unfold layI
        rw [if_neg (by omega), if_pos (by omega), if_neg (by omega), if_neg (by omega), if_pos (by omega)]
        refine ⟨?_, ?_⟩
        · congr 2
          omega
        · congr 2
          omega
      · exact TXmp.2.2 _ _ _ _ _ _ _ (fun k hk => ⟨a2 k hk, a3 k hk⟩) tx2
    · obtain ⟨w4, w5⟩ := w3 t (by omega)
      obtain ⟨s1, s2, y, s3, s4⟩ := r5 t (by omega)
      have a1 : up (layA (A 251) m cs vs A) 251 (A 251 + 1) (253 + t) = A (253 + t) := by rw [up_n (by omega)]; unfold layA; rw [if_neg (by omega), if_neg (by omega), if_neg (by omega)]
      have a2 : ∀ k, k < A (253 + t) → up (layA (A 251) m cs vs A) 251 (A 251 + 1) (260 + 400 * t + k) = A (260 + 400 * t + k) := fun k hk => by
        rw [up_n (by omega)]; unfold layA
        rw [if_neg (by omega), if_neg (by omega), if_neg (by omega)]
      have a3 : ∀ k, k < A (253 + t) → up (layA (A 251) m cs vs A) 251 (A 251 + 1) (3060 + 400 * t + k) = A (3060 + 400 * t + k) := fun k hk => by
        rw [up_n (by omega)]; unfold layA
        rw [if_neg (by omega), if_neg (by omega), if_neg (by omega)]
      rw [a1]
      refine ⟨?_, fun k hk => ?_, y, by rw [e15, if_neg et]; exact s3, ?_⟩
      · rw [e84, if_neg (by omega)]; unfold layI; rw [if_neg (by omega), if_neg (by omega), if_neg (by omega)]; exact s1
      · rw [a2 k hk, a3 k hk, e84, if_neg (by omega), e84, if_neg (by omega)]
        unfold layI
        rw [if_neg (by omega), if_neg (by omega), if_neg (by omega), if_neg (by omega), if_neg (by omega), if_neg (by omega)]
        exact s2 k hk
      · refine TXmp.2.2 _ _ _ _ _ _ _ (fun k hk => ⟨a2 k hk, a3 k hk⟩) (TXmp.1 _ _ _ _ _ _ s4 (fun i hi => ?_) ex)
        have := TXmp.2.1 _ _ _ _ _ s4
        exact eo _ (by omega) (by omega)
end LW
