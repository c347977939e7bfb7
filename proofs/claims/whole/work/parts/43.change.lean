/-! ===== refusals and changes ===== -/
def cRf (h : ah_T) (x : Int32) (p : Nat) : ah_T := ah_si (ah_si h 0 17 x) 18 p (ah_i h 18 p + 1)
def mRf (h : ah_T) (x : Int32) (p : Nat) : ah_T := ah_si (ah_si h 82 0 x) 83 p (ah_i h 83 p + 1)
def isWhy (x : Int32) (p q : Nat) : Prop := (x = -1 ∧ p = 0 ∧ q = 1) ∨ (x = -2 ∧ p = 1 ∧ q = 2) ∨ (x = -3 ∧ p = 2 ∧ q = 3) ∨ (x = -5 ∧ p = 3 ∧ q = 5) ∨ (x = -6 ∧ p = 4 ∧ q = 6)
theorem c_refuse {Q : Option Value → ah_T → Prop} {h : ah_T} (hs : Sh h) {x : Int32} {p q : Nat} (hw : isWhy x p q) (hq : Q (some (.int x)) (cRf h x p)) : Mt mX11_refuse [.ref 0, .int x] h Q := by
  refine T_X11_refuse hs _ ?_
  rintro h1 rfl
  have e : ah_n (ah_si h 0 17 x) 18 = 5 := sh_n hs 18 5 (by decide) (by decide) rfl
  rw [e, nI_ofNat]
  have e5 : nI 5 = 5 := rfl
  unfold cRf at hq
  have ei : ∀ p, ah_i (ah_si h 0 17 x) 18 p = ah_i h 18 p := fun p => ah_i_sn (by simp)
  simp only [ei]
  rcases hw with ⟨rfl, rfl, rfl⟩ | ⟨rfl, rfl, rfl⟩ | ⟨rfl, rfl, rfl⟩ | ⟨rfl, rfl, rfl⟩ | ⟨rfl, rfl, rfl⟩ <;> (refine ⟨fun _ => ?_, fun _ => ?_⟩) <;> grind
theorem m_refuses {Q : Option Value → ah_T → Prop} {h : ah_T} (hs : Sh h) {x : Int32} {p q : Nat} (hw : isWhy x p q) (hq : Q (some (.int x)) (mRf h x q)) : Mt mX12_refuses [.ref 82, .int x] h Q := by
  refine T_X12_refuses hs _ ?_
  rintro h1 rfl
  have e : ah_n (ah_si h 82 0 x) 83 = 7 := sh_n hs 83 7 (by decide) (by decide) rfl
  rw [e]
  unfold mRf at hq
  have ei : ∀ p, ah_i (ah_si h 82 0 x) 83 p = ah_i h 83 p := fun p => ah_i_sn (by simp)
  simp only [ei]
  rcases hw with ⟨rfl, rfl, rfl⟩ | ⟨rfl, rfl, rfl⟩ | ⟨rfl, rfl, rfl⟩ | ⟨rfl, rfl, rfl⟩ | ⟨rfl, rfl, rfl⟩ <;> (refine ⟨?_, ?_, ?_⟩) <;> grind
theorem c_grant {Q : Option Value → ah_T → Prop} {h : ah_T} (hs : Sh h) (x : Int32) (hq : Q (some (.int x)) (ah_si h 0 17 0)) : Mt mX11_grant [.ref 0, .int x] h Q := by
  refine T_X11_grant hs _ ?_
  grind
theorem c_change {Q : Option Value → ah_T → Prop} {h : ah_T} (hs : Sh h) (x : Int32) (hq : Q (some (.int x)) (ah_si (ah_si h 0 19 1) 0 17 0)) : Mt mX11_change [.ref 0, .int x] h Q := by
  refine T_X11_change hs _ ?_
  rintro h1 rfl
  exact c_grant (sh_si hs) _ ⟨_, rfl, sh_si (sh_si hs), hq⟩
theorem m_good {Q : Option Value → ah_T → Prop} {h : ah_T} (hs : Sh h) (x : Int32) (hq : Q (some (.int x)) (ah_si (ah_si h 82 0 0) 82 1 (ah_i h 82 1 + 1))) : Mt mX12_good [.ref 82, .int x] h Q := by
  refine T_X12_good hs _ ?_
  rintro h1 rfl
  have ei : ah_i (ah_si h 82 0 0) 82 1 = ah_i h 82 1 := ah_i_sn (by simp)
  rw [ei]
  grind
theorem m_replaces {Q : Option Value → ah_T → Prop} {h : ah_T} (hs : Sh h) (x1 x2 : Int32) (j : Nat) (e1 : x1 = nI j) (hj : j < 5860) (hq : Q (some (.int (ah_i h 84 j))) (ah_si (ah_si (ah_si h 84 j x2) 82 0 0) 82 1 (ah_i h 82 1 + 1))) : Mt mX12_replaces [.ref 82, .int x1, .int x2] h Q := by
  subst e1
  have en : ah_n h 84 = 5860 := sh_n hs 84 5860 (by decide) (by decide) rfl
  refine T_X12_replaces hs _ _ ⟨by grind, by grind, ?_⟩
  rw [nI_clamp (by omega)]
  rintro h3 rfl
  refine m_good (sh_si hs) _ ⟨_, rfl, sh_si (sh_si (sh_si hs)), ?_⟩
  have ei : ah_i (ah_si h 84 j x2) 82 1 = ah_i h 82 1 := ah_i_sn (by simp)
  rw [ei]
  exact hq
theorem m_comesBehind {Q : Option Value → ah_T → Prop} {h : ah_T} (hs : Sh h) (x1 x2 x3 x4 x5 : Int32) (b m n : Nat) (e1 : x1 = nI b) (e2 : x2 = nI m) (hm : ah_i h 84 m = nI n) (hm1 : m < 5860) (hb : b + 3 * n + 2 < m)
  (hq : Q (some (.int (nI (n + 1)))) (ah_si (ah_si (ah_si (ah_si h 84 (b + 3 * n) x3) 84 (b + (3 * n + 1)) x4) 84 (b + (3 * n + 2)) x5) 84 m (nI (n + 1)))) : Mt mX12_comesBehind [.ref 82, .int x1, .int x2, .int x3, .int x4, .int x5] h Q := by
  subst e1 e2
  have en : ah_n h 84 = 5860 := sh_n hs 84 5860 (by decide) (by decide) rfl
  refine T_X12_comesBehind hs _ _ _ _ _ ?_
  have c1 : nI b + 3 * nI n = nI (b + 3 * n) := by rw [n_3, nI_mul, nI_add]
  have c2 : nI (b + 3 * n) + 1 = nI (b + (3 * n + 1)) := nI_1 _
  have c3 : nI (b + 3 * n) + 2 = nI (b + (3 * n + 2)) := nI_add _ 2
  have a0 : vp_in (nI m) 5860 := (vp_nI (by omega)).mpr hm1
  have b1 : vp_in (nI (b + 3 * n)) 5860 := (vp_nI (by omega)).mpr (by omega)
  have b2 : vp_in (nI (b + (3 * n + 1))) 5860 := (vp_nI (by omega)).mpr (by omega)
  have b3 : vp_in (nI (b + (3 * n + 2))) 5860 := (vp_nI (by omega)).mpr (by omega)
  rw [nI_clamp (n := m) (by omega), hm, c1, c2, c3, nI_clamp (by omega), nI_clamp (by omega), nI_clamp (by omega), en]
  refine ⟨a0, b1, ?_⟩
  rintro h3 rfl
  refine ⟨by simp only [ah_n_si, en]; exact b2, ?_⟩
  rintro h7 rfl
  refine ⟨by simp only [ah_n_si, en]; exact b3, ?_⟩
  rintro h11 rfl
  refine ⟨by simp only [ah_n_si, en]; exact a0, by simp only [ah_n_si, en]; exact a0, ?_⟩
  have e : ah_i (ah_si (ah_si (ah_si h 84 (b + 3 * n) x3) 84 (b + (3 * n + 1)) x4) 84 (b + (3 * n + 2)) x5) 84 m + 1 = nI (n + 1) := by
    rw [ah_i_sn (by omega), ah_i_sn (by omega), ah_i_sn (by omega), hm, nI_1]
  rw [e]
  rintro h16 rfl
  rw [ah_i_ss]
  exact ⟨by simp only [ah_n_si, en]; exact a0, hq⟩
