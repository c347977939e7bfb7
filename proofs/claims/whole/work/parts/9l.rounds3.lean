/-! ===== rounds on both sides: the relation, what is known behind both loops ===== -/
section RR
variable {CC : (Nat → Nat) → ah_T → Prop} {CM : Nat → (Nat → Nat) → ah_T → Prop} {n : Nat}
theorem txR_R {D : Nat → Nat} {d : Nat} (e : (txR true D d).1 = true) : (txR true D d).2.2.2 = pTl (csO D d) (pRnd (csO D d) (vsO D d) isR) 12 0 0 ∧ ∀ c ∈ (txR true D d).2.2.2, clR c := by
  have h1 : (txR true D d).2.2.2 = pTl (csO D d) (pRnd (csO D d) (vsO D d) isR) 12 0 0 := pTl_eq (n := tnO D d) 12 0 0 [] e
  exact ⟨h1, by rw [h1]; exact pTl_all (n := tnO D d) (fun i lv h => pRnd_R h) 12 0 0 [] e⟩
/-- the last heap of rounds that were run -/
theorem rounds_ok {A B0 B1 A1 : Nat → Nat} {h u g f : ah_T} {d : Nat} {D : Nat → Nat} {b0 : Nat} (hCC : CCp CC) (hCM : CMp CM) (hCw : CCw CC) (hs : Sh h) (wf : WF A) (tn : Tn TXm A h 1 84 0) (im : Im TXm B0 B1 h) (sc : Sc h) (dr : Dr h) (cc : CC A h) (cm : CM (n + 1) A h)
    (ue : ∀ a, a < ah_x h → (a < 20 ∨ 28 < a) → a ≠ 0 → a ≠ 6 → a ≠ 7 → eqc h u a) (ux : ah_x h ≤ ah_x u) (u0 : ∀ j, ah_i u 0 j = if j = 17 then 0 else if j = 19 then 1 else if j = 16 then -1 else if j = 14 then -1 else if j = 13 then 0 else ah_i h 0 j) (uc : c6 A1 u) (xA : xt A A1) (uw : wB u)
    (fs : Sh f) (fx : ah_x f = ah_x u) (fe : ∀ a, a ≠ 82 → a ≠ 84 → a ≠ 90 → a ≠ 91 → a ≠ 92 → a ≠ 94 → a ≠ 121 → eqc u f a) (f84 : ∀ j, (j < 90 ∨ 162 ≤ j) → j ≠ 247 → (j < 2660 ∨ (3060 ≤ j ∧ j < 5460)) → j ≠ 259 → ah_i f 84 j = ah_i u 84 j) (fm : m6 A1 f)
    (f82 : ∀ j, (j = 6 ∨ j = 77 ∨ j = 29 ∨ j = 49 ∨ j = 60 ∨ j = 61 ∨ j = 62) → ah_i f 82 j = ah_i u 82 j) (fst : ah_i f 82 0 = 0) (fver : ah_i f 82 1 = ah_i u 82 1 + 1) (f11 : ah_i f 82 11 = 0) (f12 : ah_i f 82 12 = -1) (f66 : ah_i f 82 66 = -1) : Inv TXm CC CM n f := by
  have hx3 := hs.2.2
  have all : ∀ a, a < ah_x h → (a < 20 ∨ 28 < a) → a ≠ 0 → a ≠ 6 → a ≠ 7 → a ≠ 82 → a ≠ 84 → a ≠ 90 → a ≠ 91 → a ≠ 92 → a ≠ 94 → a ≠ 121 → eqc h f a := fun a h1 h2 h3 h4 h5 h6 h7 h8 h9 h10 h11 h12 => eqc_trans (ue a h1 h2 h3 h4 h5) (fe a h6 h7 h8 h9 h10 h11 h12)
  have u82 := (ue 82 (by omega) (by omega) (by omega) (by omega) (by omega)).1
  have u84 := (ue 84 (by omega) (by omega) (by omega) (by omega) (by omega)).1
  have f0 := (fe 0 (by decide) (by decide) (by decide) (by decide) (by decide) (by decide) (by decide)).1
  have c1 : c6 A1 f := by
    obtain ⟨c1, c2, c3, c4, c5, c7, c8⟩ := uc
    have e4 := (fe 4 (by decide) (by decide) (by decide) (by decide) (by decide) (by decide) (by decide)).1
    have e6 := (fe 6 (by decide) (by decide) (by decide) (by decide) (by decide) (by decide) (by decide)).1
    have e7 := (fe 7 (by decide) (by decide) (by decide) (by decide) (by decide) (by decide) (by decide)).1
    exact ⟨by rw [e4]; exact c1, c2, by rw [e6]; exact c3, by rw [e6]; exact c4, by rw [e6]; exact c5, c7, fun j hj => by rw [e7]; exact c8 j hj⟩
  have tn' := Tn_6w (A' := A1) (h2 := f) wf tn (fun a ha => all a (by omega) (by omega) (by omega) (by omega) (by omega) (by omega) (by omega) (by omega) (by omega) (by omega) (by omega) (by omega)) (by omega) c1 fm (fun j _ h1 h2 h3 h4 => by rw [f84 j h1 h2 h3 h4, u84]) (fun j h1 h2 => xA.2.2.2 j h1 h2)
  obtain ⟨s1, s2, s3, s4, s5, s6, s7, s8, s9⟩ := sc
  have f18 := (all 18 (by omega) (by omega) (by omega) (by omega) (by omega) (by omega) (by omega) (by omega) (by omega) (by omega) (by omega) (by omega)).1
  have f83 := (all 83 (by omega) (by omega) (by omega) (by omega) (by omega) (by omega) (by omega) (by omega) (by omega) (by omega) (by omega) (by omega)).1
  have g0 : ∀ j, ah_i f 0 j = if j = 17 then 0 else if j = 19 then 1 else if j = 16 then -1 else if j = 14 then -1 else if j = 13 then 0 else ah_i h 0 j := fun j => by rw [f0, u0]
  refine inv_gen (A' := A1) (d' := 0) (D' := D) TXmp hCC hCM im dr cc cm fs xA.1 tn' (fun a ha => all a (by unfold stayG at ha; omega) (by unfold stayG at ha; omega) (by unfold stayG at ha; omega) (by unfold stayG at ha; omega) (by unfold stayG at ha; omega) (by unfold stayG at ha; omega) (by unfold stayG at ha; omega) (by unfold stayG at ha; omega) (by unfold stayG at ha; omega) (by unfold stayG at ha; omega) (by unfold stayG at ha; omega) (by unfold stayG at ha; omega)) (by omega) ?_ ⟨by omega, ?_, by rw [f11]; rfl, fun j hj => by omega⟩ (fun _ => wB_of (fe 27 (by decide) (by decide) (by decide) (by decide) (by decide) (by decide) (by decide)).1 uw) (by rw [f82 77 (by omega), u82]) ?_ ?_ (fun j hj => xA.2.2.2 j (by omega) (by omega)) (xA.2.2.2 245 (by omega) (by omega)) (xA.2.2.2 246 (by omega) (by omega)) (by rw [fver, u82]) (fun j hj => by rw [f82 j (by omega), u82])
  · refine ⟨by rw [g0, if_pos rfl, fst], by rw [f18, f83]; exact s2, by rw [f18, f83]; exact s3, by rw [f18, f83]; exact s4, by rw [f18, f83]; exact s5, by rw [f18, f83]; exact s6, ?_, ?_, ?_⟩
    · rw [g0, if_neg (by decide), if_neg (by decide), if_neg (by decide), if_neg (by decide), if_neg (by decide), f82 6 (by omega), u82]; exact s7
    · rw [g0, if_neg (by decide), if_neg (by decide), if_neg (by decide), if_pos rfl, f12]
    · rw [g0, if_neg (by decide), if_neg (by decide), if_pos rfl, f66]
  · rw [g0, if_neg (by decide), if_neg (by decide), if_neg (by decide), if_neg (by decide), if_pos rfl]; rfl
  · rw [g0, if_neg (by decide), if_pos rfl]
  · rw [g0, if_neg (by decide), if_neg (by decide), if_neg (by decide), if_neg (by decide), if_neg (by decide)]
/-- the last heap of rounds that can't be: c the class's ahead of its refusal, m the model's -/
theorem rounds_no {A B0 B1 : Nat → Nat} {h c m : ah_T} {d : Nat} {D : Nat → Nat} {y v14 v16 : Int32} {p q : Nat} (hCC : CCp CC) (hCM : CMp CM) (hw : isWhy y p q) (hs : Sh h) (wf : WF A) (tn : Tn TXm A h 1 84 0) (im : Im TXm B0 B1 h) (sc : Sc h) (dr : Dr h) (cc : CC A h) (cm : CM (n + 1) A h)
    (ce : ∀ a, a < ah_x h → (a < 20 ∨ 28 < a) → a ≠ 0 → a ≠ 6 → a ≠ 7 → eqc h c a) (cx : ah_x h ≤ ah_x c) (c0 : ∀ j, ah_i c 0 j = if j = 16 then v16 else if j = 14 then v14 else if j = 13 then 0 else ah_i h 0 j) (uc : c6 A c) (uw : wB c)
    (ms : Sh m) (mx : ah_x m = ah_x c) (me : ∀ a, a ≠ 82 → a ≠ 84 → a ≠ 90 → a ≠ 91 → a ≠ 92 → a ≠ 94 → a ≠ 121 → eqc (cRf c y p) m a) (m84 : ∀ j, (j < 90 ∨ 162 ≤ j) → j ≠ 247 → (j < 2660 ∨ (3060 ≤ j ∧ j < 5460)) → j ≠ 259 → ah_i m 84 j = ah_i c 84 j) (mm : m6 A m)
    (m82 : ∀ j, (j = 1 ∨ j = 6 ∨ j = 77 ∨ j = 29 ∨ j = 49 ∨ j = 60 ∨ j = 61 ∨ j = 62) → ah_i m 82 j = ah_i c 82 j) (m11 : ah_i m 82 11 = 0) (m12 : ah_i m 82 12 = v14) (m66 : ah_i m 82 66 = v16) : Inv TXm CC CM n (mRf m y q) := by
  have hx3 := hs.2.2
  have re : ∀ a, a ≠ 0 → a ≠ 18 → eqc c (cRf c y p) a := fun a h1 h2 => eqc_cRf h1 h2
  have r0 : ∀ j, ah_i (cRf c y p) 0 j = if j = 17 then y else ah_i c 0 j := fun j => by
    unfold cRf
    rw [ah_i_sn (by omega), ah_i_si]
    simp only [true_and]
  have fe : ∀ a, a ≠ 82 → a ≠ 83 → eqc m (mRf m y q) a := fun a h1 h2 => eqc_mRf h1 h2
  have all : ∀ a, a < ah_x h → (a < 20 ∨ 28 < a) → a ≠ 0 → a ≠ 6 → a ≠ 7 → a ≠ 18 → a ≠ 82 → a ≠ 83 → a ≠ 84 → a ≠ 90 → a ≠ 91 → a ≠ 92 → a ≠ 94 → a ≠ 121 → eqc h (mRf m y q) a := fun a h1 h2 h3 h4 h5 h18 h6 h83 h7 h8 h9 h10 h11 h12 => eqc_trans (eqc_trans (eqc_trans (ce a h1 h2 h3 h4 h5) (re a h3 h18)) (me a h6 h7 h8 h9 h10 h11 h12)) (fe a h6 h83)
  have c82 := (ce 82 (by omega) (by omega) (by omega) (by omega) (by omega)).1
  have c84 := (ce 84 (by omega) (by omega) (by omega) (by omega) (by omega)).1
  have m0 : ∀ j, ah_i m 0 j = if j = 17 then y else if j = 16 then v16 else if j = 14 then v14 else if j = 13 then 0 else ah_i h 0 j := fun j => by rw [(me 0 (by decide) (by decide) (by decide) (by decide) (by decide) (by decide) (by decide)).1, r0, c0]
  have f0 : ∀ j, ah_i (mRf m y q) 0 j = ah_i m 0 j := (fe 0 (by decide) (by decide)).1
  have f84 : ∀ j, ah_i (mRf m y q) 84 j = ah_i m 84 j := (fe 84 (by decide) (by decide)).1
  have f82 : ∀ j, j ≠ 0 → ah_i (mRf m y q) 82 j = ah_i m 82 j := fun j hj => by unfold mRf; rw [ah_i_sn (by omega), ah_i_sn (by omega)]
  have mfx : ah_x (mRf m y q) = ah_x m := by unfold mRf; rw [ah_x_si, ah_x_si]
  have cf : ∀ a, a ≠ 0 → a ≠ 18 → a ≠ 82 → a ≠ 83 → a ≠ 84 → a ≠ 90 → a ≠ 91 → a ≠ 92 → a ≠ 94 → a ≠ 121 → eqc c (mRf m y q) a := fun a h1 h2 h3 h4 h5 h6 h7 h8 h9 h10 => eqc_trans (eqc_trans (re a h1 h2) (me a h3 h5 h6 h7 h8 h9 h10)) (fe a h3 h4)
  have c1 : c6 A (mRf m y q) := by
    obtain ⟨c1, c2, c3, c4, c5, c7, c8⟩ := uc
    have e4 := (cf 4 (by decide) (by decide) (by decide) (by decide) (by decide) (by decide) (by decide) (by decide) (by decide) (by decide)).1
    have e6 := (cf 6 (by decide) (by decide) (by decide) (by decide) (by decide) (by decide) (by decide) (by decide) (by decide) (by decide)).1
    have e7 := (cf 7 (by decide) (by decide) (by decide) (by decide) (by decide) (by decide) (by decide) (by decide) (by decide) (by decide)).1
    exact ⟨by rw [e4]; exact c1, c2, by rw [e6]; exact c3, by rw [e6]; exact c4, by rw [e6]; exact c5, c7, fun j hj => by rw [e7]; exact c8 j hj⟩
  have m1 : m6 A (mRf m y q) := by
    obtain ⟨p1, p2, p3, p4, p5⟩ := mm
    exact ⟨by rw [f84]; exact p1, p2, by rw [f84]; exact p3, p4, fun j hj => by rw [f84]; exact p5 j hj⟩
  have tn' := Tn_6w (A' := A) (h2 := mRf m y q) wf tn (fun a ha => all a (by omega) (by omega) (by omega) (by omega) (by omega) (by omega) (by omega) (by omega) (by omega) (by omega) (by omega) (by omega) (by omega) (by omega)) (by omega) c1 m1 (fun j _ h1 h2 h3 h4 => by rw [f84, m84 j h1 h2 h3 h4, c84]) (fun j h1 h2 => rfl)
  have sc' := sc
  obtain ⟨s1, s2, s3, s4, s5, s6, s7, s8, s9⟩ := sc'
  have scf : Sc (mRf m y q) := by
    refine Sc_rf (h := h) (hC := c) hw sc (fun j => (ce 18 (by omega) (by omega) (by omega) (by omega) (by omega)).1 j) (fun j => (me 18 (by decide) (by decide) (by decide) (by decide) (by decide) (by decide) (by decide)).1 j) (fun j => by rw [(me 83 (by decide) (by decide) (by decide) (by decide) (by decide) (by decide) (by decide)).1, (re 83 (by decide) (by decide)).1, (ce 83 (by omega) (by omega) (by omega) (by omega) (by omega)).1]) (by rw [m0, if_pos rfl]) ?_ ?_ ?_
    · rw [m0, if_neg (by decide), if_neg (by decide), if_neg (by decide), if_neg (by decide), m82 6 (by omega), c82]; exact s7
    · rw [m0, if_neg (by decide), if_neg (by decide), if_pos rfl, m12]
    · rw [m0, if_neg (by decide), if_pos rfl, m66]
  refine inv_keep (d' := 0) (D' := D) hCC hCM wf im dr cc cm ms tn' (fun a ha => all a (by unfold stayG at ha; omega) (by unfold stayG at ha; omega) (by unfold stayG at ha; omega) (by unfold stayG at ha; omega) (by unfold stayG at ha; omega) (by unfold stayG at ha; omega) (by unfold stayG at ha; omega) (by unfold stayG at ha; omega) (by unfold stayG at ha; omega) (by unfold stayG at ha; omega) (by unfold stayG at ha; omega) (by unfold stayG at ha; omega) (by unfold stayG at ha; omega) (by unfold stayG at ha; omega)) (by omega) scf ⟨by omega, ?_, by rw [f82 11 (by decide), m11]; rfl, fun j hj => by omega⟩ (fun _ => wB_of (cf 27 (by decide) (by decide) (by decide) (by decide) (by decide) (by decide) (by decide) (by decide) (by decide) (by decide)).1 uw) (by rw [f82 77 (by decide), m82 77 (by omega), c82]) ?_ ?_ (by rw [f82 1 (by decide), m82 1 (by omega), c82]) (fun j hj => by rw [f82 j (by omega), m82 j (by omega), c82])
  · rw [f0, m0, if_neg (by decide), if_neg (by decide), if_neg (by decide), if_pos rfl]; rfl
  · rw [f0, m0, if_neg (by decide), if_neg (by decide), if_neg (by decide), if_neg (by decide)]
  · rw [f0, m0, if_neg (by decide), if_neg (by decide), if_neg (by decide), if_neg (by decide)]
end RR
