/-! ===== what the kept findings must allow; both refuse ===== -/
/-- the numbers of the machine's words are small -/
def wB (h : ah_T) : Prop := ∀ k, k < 13 → -1000000000 ≤ (ah_i h 27 k).toInt ∧ (ah_i h 27 k).toInt ≤ 1000000000
theorem wB_of {h h' : ah_T} (e : ∀ j, ah_i h' 27 j = ah_i h 27 j) (w : wB h) : wB h' := fun k hk => by rw [e]; exact w k hk
def agC (h h' : ah_T) : Prop := (∀ a, 29 ≤ a → a < 82 → eqc h h' a) ∧ (∀ x, 123 ≤ x → ah_k h x = 9 ∧ ah_k h (x + 1) = 14 ∧ ah_k h (x + 2) = 14 ∧ ah_k h (x + 3) = 14 → x + 4 ≤ ah_x h → ∀ i, i < 4 → eqc h h' (x + i)) ∧ ah_x h ≤ ah_x h' ∧ (∀ x, 123 ≤ x → x < ah_x h → ah_k h x = 14 → ah_n h x = 10240 → eqc h h' x) ∧ (wB h → wB h')
def CCp (CC : (Nat → Nat) → ah_T → Prop) : Prop :=
  (∀ A h h', CC A h → agC h h' → ah_i h' 0 18 = ah_i h 0 18 → ah_i h' 0 19 = ah_i h 0 19 → CC A h') ∧
  (∀ A A' h h', CC A h → agC h h' → ah_i h' 0 18 = 1 → ah_i h' 0 19 = 1 → CC A' h') ∧
  (∀ A A' h h', CC A h → agC h h' → ah_i h' 0 18 = ah_i h 0 18 → ah_i h' 0 19 = 1 → (∀ j, j < 90 → A' j = A j) → A' 245 = A 245 → A' 246 = A 246 → CC A' h')
def agM (h h' : ah_T) : Prop := (∀ a, (a = 38 ∨ a = 87 ∨ a = 95 ∨ a = 96 ∨ a = 97 ∨ a = 109 ∨ a = 110 ∨ a = 111) → eqc h h' a) ∧ (∀ j, (j = 29 ∨ j = 49 ∨ j = 60 ∨ j = 61 ∨ j = 62) → ah_i h' 82 j = ah_i h 82 j)
def CMp (CM : Nat → (Nat → Nat) → ah_T → Prop) : Prop :=
  (∀ n A h h', CM n A h → agM h h' → ah_i h' 82 1 = ah_i h 82 1 → CM n A h') ∧ (∀ n A h, CM (n + 1) A h → CM n A h) ∧
  (∀ n A A' h h', CM (n + 1) A h → agM h h' → ah_i h' 82 1 = ah_i h 82 1 + 1 → CM n A' h')
section MU
variable {TX : ah_T → Nat → (Nat → Nat) → (Nat → Nat) → Nat → Prop} {CC : (Nat → Nat) → ah_T → Prop} {CM : Nat → (Nat → Nat) → ah_T → Prop} {A A' B0 B1 : Nat → Nat} {h h' : ah_T} {n : Nat}
theorem Sc_refuse {x : Int32} {p q : Nat} (hw : isWhy x p q) (s : Sc h) : Sc (mRf (cRf h x p) x q) := by
  unfold Sc mRf cRf at *
  simp only [ah_i_si]
  rcases hw with ⟨rfl, rfl, rfl⟩ | ⟨rfl, rfl, rfl⟩ | ⟨rfl, rfl, rfl⟩ | ⟨rfl, rfl, rfl⟩ | ⟨rfl, rfl, rfl⟩ <;> simp [s.1, s.2]
theorem eqc_cRf {x : Int32} {p a : Nat} (h0 : a ≠ 0) (h18 : a ≠ 18) : eqc h (cRf h x p) a := eqc_si (eqc_si eqc_rfl h0) h18
theorem eqc_mRf {x : Int32} {p a : Nat} (h0 : a ≠ 82) (h18 : a ≠ 83) : eqc h (mRf h x p) a := eqc_si (eqc_si eqc_rfl h0) h18
theorem eqc_Rf {x : Int32} {p q a : Nat} (h0 : a ≠ 0) (h1 : a ≠ 18) (h2 : a ≠ 82) (h3 : a ≠ 83) : eqc h (mRf (cRf h x p) x q) a := eqc_trans (eqc_cRf h0 h1) (eqc_mRf h2 h3)
theorem Sh_Rf {x : Int32} {p q : Nat} (hs : Sh h) : Sh (mRf (cRf h x p) x q) := hs
theorem Tp_Rf {d : Nat} {D : Nat → Nat} {x : Int32} {p q : Nat} (t : Tp d D h) : Tp d D (mRf (cRf h x p) x q) := by
  obtain ⟨t1, t2, t3, t4⟩ := t
  refine ⟨t1, ?_, ?_, fun j hj => ?_⟩
  · simp only [mRf, cRf, ah_i_si]; simpa using t2
  · simp only [mRf, cRf, ah_i_si]; simpa using t3
  · rw [(eqc_Rf (a := 17) (by decide) (by decide) (by decide) (by decide)).1, (eqc_Rf (a := 88) (by decide) (by decide) (by decide) (by decide)).1]
    exact t4 j hj
theorem Dr_Rf {x : Int32} {p q : Nat} (t : Dr h) : Dr (mRf (cRf h x p) x q) := by
  have e1 : ah_i (mRf (cRf h x p) x q) 82 77 = ah_i h 82 77 := by simp [mRf, cRf, ah_i_si]
  unfold Dr
  rw [e1, (eqc_Rf (a := 19) (by decide) (by decide) (by decide) (by decide)).1]
  rcases t with t | t
  · exact .inl t
  · refine .inr ⟨t.1, fun j hj => ?_⟩
    rw [(eqc_Rf (a := 19) (by decide) (by decide) (by decide) (by decide)).1, (eqc_Rf (a := 122) (by decide) (by decide) (by decide) (by decide)).1]
    exact t.2 j hj
theorem agC_w (h1 : ∀ a, 29 ≤ a → a < 82 → eqc h h' a) (h2 : ∀ a, 123 ≤ a → a < ah_x h → eqc h h' a) (hx : ah_x h ≤ ah_x h') (hw : wB h → wB h') : agC h h' :=
  ⟨h1, fun x hx _ hx2 i hi => h2 _ (by omega) (by omega), hx, fun x h3 h4 _ _ => h2 x h3 h4, hw⟩
theorem agC_of (h1 : ∀ a, 27 ≤ a → a < 82 → eqc h h' a) (h2 : ∀ a, 123 ≤ a → a < ah_x h → eqc h h' a) (hx : ah_x h ≤ ah_x h') : agC h h' :=
  agC_w (fun a h3 h4 => h1 a (by omega) h4) h2 hx (wB_of (h1 27 (by omega) (by omega)).1)
/-- both refuse alike: all is as it was, but what they say of it -/
theorem inv_refuse (hTX : TXp TX) (hCC : CCp CC) (hCM : CMp CM) (hI : Inv TX CC CM (n + 1) h) {x : Int32} {p q : Nat} (hw : isWhy x p q) : Inv TX CC CM n (mRf (cRf h x p) x q) := by
  obtain ⟨hs, A, B0, B1, d, D, i1, i2, i3, i4, i5, i6, i7, i8⟩ := hI
  refine ⟨Sh_Rf hs, A, B0, B1, d, D, i1, ?_, ?_, Sc_refuse hw i4, Tp_Rf i5, Dr_Rf i6, ?_, ?_⟩
  · have hx : 123 ≤ ah_x h := hs.2.2
    exact Tn_fr i1 hTX (fun i hi => eqc_Rf (by omega) (by omega) (by omega) (by omega)) (eqc_Rf (by decide) (by decide) (by decide) (by decide)) (fun x _ _ _ i hi => eqc_Rf (by omega) (by omega) (by omega) (by omega)) (Nat.le_refl _) i2
  · exact Im_fr hTX (fun a ha _ => eqc_Rf (by omega) (by omega) (by omega) (by omega)) (eqc_Rf (by decide) (by decide) (by decide) (by decide)) (eqc_Rf (by decide) (by decide) (by decide) (by decide)) (eqc_Rf (by decide) (by decide) (by decide) (by decide)) (Nat.le_refl _) i3
  · exact hCC.1 _ _ _ i7 (agC_of (fun a h1 h2 => eqc_Rf (by omega) (by omega) (by omega) (by omega)) (fun a h1 h2 => eqc_Rf (by omega) (by omega) (by omega) (by omega)) (Nat.le_refl _)) (by simp [mRf, cRf, ah_i_si]) (by simp [mRf, cRf, ah_i_si])
  · exact hCM.2.1 _ _ _ (hCM.1 _ _ _ _ i8 ⟨fun a ha => eqc_Rf (by omega) (by omega) (by omega) (by omega), fun j hj => by simp only [mRf, cRf, ah_i_si]; rcases hj with rfl | rfl | rfl | rfl | rfl <;> simp⟩ (by simp [mRf, cRf, ah_i_si]))
end MU
