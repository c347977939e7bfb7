/-! ===== helpers of the printed blocks ===== -/
theorem Wp.nm {M : ab_M} {Q : Option Value → ah_T → Prop} {c0 s0 pc : Nat} {L : List (Option Value)} {st : List Value} {h : ah_T} (k : ∀ h', h' = h → Wp M Q c0 s0 pc L st h') : Wp M Q c0 s0 pc L st h := k h rfl
theorem Wp.wide {M : ab_M} {Q : Option Value → ah_T → Prop} {c0 s0 c1 s1 pc : Nat} {L : List (Option Value)} {st : List Value} {h : ah_T} (h1 : c0 ≤ c1) (h2 : s0 ≤ s1) (k : Wp M Q c1 s1 pc L st h) : Wp M Q c0 s0 pc L st h := by
  intro p l e s m args below meth c g A σ0 n0 C σ H locs ls S
  exact W.widen h1 h2 (k p l e s m args below meth c g A σ0 n0 C σ H locs ls S)
theorem sh_srA {h : ah_T} {a j : Nat} {x : Option Nat} (hs : Sh h) (hn : sh_R.all (fun q => !(q.1 == a)) = true) : Sh (ah_sr h a j x) := by
  refine ⟨hs.1, fun q hq => ?_, hs.2.2⟩
  have h1 := List.all_eq_true.mp hn q hq
  rw [ah_r_sr, if_neg, hs.2.1 q hq]
  rintro ⟨e1, e2⟩
  simp [e1] at h1
/-- a store into a row of Texts leaves the shape: no reference of it lies in such a row -/
theorem sh_srK {h : ah_T} {a j : Nat} {x : Option Nat} (hs : Sh h) (hk : ah_k h a = 17) : Sh (ah_sr h a j x) := by
  refine ⟨hs.1, fun q hq => ?_, hs.2.2⟩
  rw [ah_r_sr, if_neg, hs.2.1 q hq]
  rintro ⟨e1, -⟩
  have h2 : sh_R.all (fun q => decide (q.1 < 123) && !(sh_K q.1 == 17)) = true := by decide +kernel
  have h3 := List.all_eq_true.mp h2 q hq
  simp only [Bool.and_eq_true, decide_eq_true_eq, Bool.not_eq_true', beq_eq_false_iff_ne, ne_eq] at h3
  have h4 := (hs.1 q.1 h3.1).1
  rw [e1, hk] at h4
  rw [e1] at h3
  exact h3.2 h4.symm
theorem na_copy : Cond.native arraycopyName ∈ lw_T := tb_4 (List.mem_of_getElem? (i := 210) (by decide +kernel)) rfl
theorem st_copy : Cond.static arraycopyName ∈ lw_T := tb_4 (List.mem_of_getElem? (i := 209) (by decide +kernel)) rfl
theorem in_sys : Cond.initialized "java/lang/System" ∈ lw_T := tb_1 (List.mem_of_getElem? (i := 20) (by decide +kernel)) rfl
theorem wa_int : Cond.arrayClass .int ∈ lw_T := tb_1 (List.mem_of_getElem? (i := 63) (by decide +kernel)) rfl
