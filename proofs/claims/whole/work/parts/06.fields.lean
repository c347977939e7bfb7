/-! ===== rows of instructions: fields ===== -/
/-- a field as a constant pool names it: of class number ci the field number k -/
def ab_F (own : String) (index ci k : Nat) (fin : Bool) : Prop := ∃ (C : String) (T : u_T) (N : Nat), vwCl[ci]? = some (C, T, N) ∧ ci < 13 ∧ ab_N ci = N ∧ k < N ∧ (∀ w ∈ u_ws C T N, w ∈ lw_T) ∧ (∀ k, k < N → parseFieldDescriptor (T k).2.2.1 = some (ab_ty ci k)) ∧
  (∀ a, a < N → ∀ b, b < N → a ≠ b → (T a).2.1 ≠ (T b).2.1) ∧ Cond.fieldLink own index (T k).1 (T k).2.1 (T k).2.2.1 ∈ lw_T ∧ (T k).2.2.2 = fin ∧ (T k).1 = C
theorem ab_E_obj {y : Nat → ClassId} {σ : Nat → Nat} {h : ah_T} {a ci : Nat} (hk : ah_k h a = ci) (hc : ci < 13) : ab_E y σ h a = .inr (ci, ab_fs σ h a ci) := by
  subst hk
  simp [ab_E, hc]
theorem ab_fs_at {σ : Nat → Nat} {h : ah_T} {a ci k : Nat} (hk : k < ab_N ci) : (ab_fs σ h a ci)[k]? = some (ab_fv σ h a k (ab_ty ci k)) := by
  simp [ab_fs, hk]
theorem ab_fs_len (σ : Nat → Nat) (h : ah_T) (a ci : Nat) : (ab_fs σ h a ci).length = ab_N ci := by simp [ab_fs]
theorem ab_fs_set {σ : Nat → Nat} {h h' : ah_T} {a ci k : Nat} {v : Value} (hk : k < ab_N ci) (hv : ab_fv σ h' a k (ab_ty ci k) = v) (ho : ∀ j, j ≠ k → ab_fv σ h' a j (ab_ty ci j) = ab_fv σ h a j (ab_ty ci j)) : ab_fs σ h' a ci = (ab_fs σ h a ci).set k v := by
  apply List.ext_getElem?
  intro j
  by_cases hj : j = k
  · subst hj
    rw [List.getElem?_set_self (by rw [ab_fs_len]; exact hk), ab_fs_at hk, hv]
  · rw [List.getElem?_set_ne (Ne.symm hj)]
    by_cases hl : j < ab_N ci
    · rw [ab_fs_at hl, ab_fs_at hl, ho j hj]
    · rw [List.getElem?_eq_none (by rw [ab_fs_len]; omega), List.getElem?_eq_none (by rw [ab_fs_len]; omega)]
theorem ab_fv_i {σ : Nat → Nat} {h : ah_T} {a k : Nat} {t : FieldType} (ht : ab_code t = 0) : ab_fv σ h a k t = .int (ah_i h a k) := by simp [ab_fv, ht]
theorem ab_fv_l {σ : Nat → Nat} {h : ah_T} {a k : Nat} {t : FieldType} (ht : ab_code t = 1) : ab_fv σ h a k t = .long (ah_l h a k) := by simp [ab_fv, ht]
theorem ab_fv_r {σ : Nat → Nat} {h : ah_T} {a k : Nat} {t : FieldType} (ht : ab_code t = 2) : ab_fv σ h a k t = va_rf ((ah_r h a k).map σ) := by simp [ab_fv, ht]
/-- another cell is the same, if its kind, length, ints, longs, references are -/
theorem ab_E_same {y : Nat → ClassId} {σ : Nat → Nat} {h h' : ah_T} {b : Nat} (h1 : ah_k h' b = ah_k h b) (h2 : ah_n h' b = ah_n h b) (h3 : ∀ j, ah_i h' b j = ah_i h b j) (h4 : ∀ j, ah_l h' b j = ah_l h b j) (h5 : ∀ j, ah_r h' b j = ah_r h b j) : ab_E y σ h' b = ab_E y σ h b := by
  have e3 : ah_i h' b = ah_i h b := funext h3
  have e4 : ah_l h' b = ah_l h b := funext h4
  have e5 : ∀ c, ab_fs σ h' b c = ab_fs σ h b c := fun c => by
    unfold ab_fs
    apply List.map_congr_left
    intro k _
    unfold ab_fv
    rw [h3, h4, h5]
  have e6 : (fun j => (ah_r h' b j).map σ) = (fun j => (ah_r h b j).map σ) := funext fun j => by rw [h5]
  unfold ab_E
  rw [h1, h2, e3, e4, e5, e6]
section FLD
variable {M : ab_M} {Q : Option Value → ah_T → Prop} {c0 s0 pc : Nat} {L : List (Option Value)} {st : List Value} {h : ah_T} {index ci k a : Nat} {fin : Bool}
theorem ab_get {v : Value} (hF : ab_F M.1.cls index ci k fin) (hk : ah_k h a = ci) (hv : ∀ σ, ab_fv σ h a k (ab_ty ci k) = ab_v σ v) (hok : (∀ j b, ah_r h a j = some b → b < ah_x h) → ab_ok (ah_x h) v) (d : decode M.2.1 pc = .ok (.getfield index, 3)) (kk : Wp M Q c0 s0 (pc + 3) L (v :: st) h) : Wp M Q c0 s0 pc L (.ref a :: st) h := by
  intro p l e s m args below meth c g A σ0 n0 C σ H locs ls S
  obtain ⟨s1, s2, s3, s4, s5, s6, s7, s8⟩ := S
  obtain ⟨CC, T, N, f1, f2, f3, f4, f5, f6, f7, f8, f9, f10⟩ := hF
  have ha : a < ah_x h := s3.2.2.1 a (by rw [hk]; omega)
  have hts : ∀ w ∈ lw_T, w.before args s = true := fun w hw => C.2.2.2.2.2.2.1 w (List.mem_cons_of_mem _ hw)
  refine va_get (D := g.1) (cl := vwCl) (ci := ci) (C := CC) (T := T) (N := N) (ref := (T k).1) (own := M.1.cls) (fs := ab_fs σ h a ci) (v := ab_v σ v) C.1 C.2.1 hts f5 C.2.2.2.2.2.1 C.2.2.2.2.2.2.2.1 s3.1 a ?_ f1 k f4 (hts _ f8) (fun _ h9 => h9) ?_ d ?_
  · rw [ab_ws_at ha, ab_E_obj hk f2]
  · rw [ab_fs_at (by rw [f3]; exact f4), hv]
  · exact kk p l e s m args below meth c g A σ0 n0 C σ H locs ls ⟨s1, s2, s3, s4, s5, s6, ⟨hok (fun j b hb => s3.2.2.2 a j b ha hb), s7.2⟩, s8⟩
theorem ab_getI (hF : ab_F M.1.cls index ci k fin) (ht : ab_code (ab_ty ci k) = 0) (hk : ah_k h a = ci) (d : decode M.2.1 pc = .ok (.getfield index, 3)) (kk : Wp M Q c0 s0 (pc + 3) L (.int (ah_i h a k) :: st) h) : Wp M Q c0 s0 pc L (.ref a :: st) h :=
  ab_get (v := .int (ah_i h a k)) hF hk (fun σ => ab_fv_i ht) (fun _ => trivial) d kk
theorem ab_getL (hF : ab_F M.1.cls index ci k fin) (ht : ab_code (ab_ty ci k) = 1) (hk : ah_k h a = ci) (d : decode M.2.1 pc = .ok (.getfield index, 3)) (kk : Wp M Q c0 s0 (pc + 3) L (.long (ah_l h a k) :: st) h) : Wp M Q c0 s0 pc L (.ref a :: st) h :=
  ab_get (v := .long (ah_l h a k)) hF hk (fun σ => ab_fv_l ht) (fun _ => trivial) d kk
theorem ab_getR {b : Nat} (hF : ab_F M.1.cls index ci k fin) (ht : ab_code (ab_ty ci k) = 2) (hk : ah_k h a = ci) (hr : ah_r h a k = some b) (d : decode M.2.1 pc = .ok (.getfield index, 3)) (kk : Wp M Q c0 s0 (pc + 3) L (.ref b :: st) h) : Wp M Q c0 s0 pc L (.ref a :: st) h :=
  ab_get (v := .ref b) hF hk (fun σ => by rw [ab_fv_r ht, hr]; rfl) (fun hc => hc k b hr) d kk
theorem ab_getN (hF : ab_F M.1.cls index ci k fin) (ht : ab_code (ab_ty ci k) = 2) (hk : ah_k h a = ci) (hr : ah_r h a k = none) (d : decode M.2.1 pc = .ok (.getfield index, 3)) (kk : Wp M Q c0 s0 (pc + 3) L (.null :: st) h) : Wp M Q c0 s0 pc L (.ref a :: st) h :=
  ab_get (v := .null) hF hk (fun σ => by rw [ab_fv_r ht, hr]; rfl) (fun _ => trivial) d kk
/-- a field is put: the heap behind it is h' -/
theorem ab_put {v : Value} {h' : ah_T} (hF : ab_F M.1.cls index ci k fin) (hfin : fin = false ∨ (M.1.name = "<init>" ∧ fin = true ∧ vwCl[ci]?.map (fun q => q.1) = some M.1.cls)) (hk : ah_k h a = ci) (hn : ∀ σ, narrow (ab_ty ci k) (ab_v σ v) = ab_v σ v) (hfit : ∀ σ, fits (ab_ty ci k) (ab_v σ v) = true)
    (hx : ah_x h' = ah_x h) (e1 : ∀ b, ah_k h' b = ah_k h b) (e2 : ∀ b, ah_n h' b = ah_n h b) (e3 : ∀ b j, b ≠ a → ah_i h' b j = ah_i h b j) (e4 : ∀ b j, b ≠ a → ah_l h' b j = ah_l h b j) (e5 : ∀ b j, b ≠ a → ah_r h' b j = ah_r h b j)
    (hv : ∀ σ, ab_fv σ h' a k (ab_ty ci k) = ab_v σ v) (ho : ∀ σ j, j ≠ k → ab_fv σ h' a j (ab_ty ci j) = ab_fv σ h a j (ab_ty ci j)) (hcl : ab_ok (ah_x h) v → ∀ j b, ah_r h' a j = some b → ah_r h a j = some b ∨ b < ah_x h)
    (d : decode M.2.1 pc = .ok (.putfield index, 3)) (kk : Wp M Q c0 s0 (pc + 3) L st h') : Wp M Q c0 s0 pc L (v :: .ref a :: st) h := by
  intro p l e s m args below meth c g A σ0 n0 C σ H locs ls S
  obtain ⟨s1, s2, s3, s4, s5, s6, s7, s8⟩ := S
  obtain ⟨CC, T, N, f1, f2, f3, f4, f5, f6, f7, f8, f9, f10⟩ := hF
  have ha : a < ah_x h := s3.2.2.1 a (by rw [hk]; omega)
  have hts : ∀ w ∈ lw_T, w.before args s = true := fun w hw => C.2.2.2.2.2.2.1 w (List.mem_cons_of_mem _ hw)
  have hws : (ab_ws g.2.1 σ h)[a]? = some (σ a, .inr (ci, ab_fs σ h a ci)) := by rw [ab_ws_at ha, ab_E_obj hk f2]
  have hset : (ab_ws g.2.1 σ h).set a (σ a, .inr (ci, (ab_fs σ h a ci).set k (ab_v σ v))) = ab_ws g.2.1 σ h' :=
    ab_ws_set hx _ (by rw [ab_E_obj (by rw [e1]; exact hk) f2, ab_fs_set (by rw [f3]; exact f4) (hv σ) (ho σ)]) (fun b hb => ab_E_same (e1 b) (e2 b) (fun j => e3 b j hb) (fun j => e4 b j hb) (fun j => e5 b j hb))
  have hgo : ∀ (H1 : Heap) (locs1 : List Loc), va_P g.1 vwCl ((ab_ws g.2.1 σ h).set a (σ a, .inr (ci, (ab_fs σ h a ci).set k (ab_v σ v)))) H1 → va_D A ((ab_ws g.2.1 σ h).set a (σ a, .inr (ci, (ab_fs σ h a ci).set k (ab_v σ v)))) → va_S A s.heap H1 locs1 →
      W p l e (ab_rm M) s m args below meth c H1 locs1 c0 s0 (ab_P below g σ0 n0 A Q args s M.2.2.2.2.2.1 M.2.2.2.2.2.2) (F0 m (pc + 3) ls (st.map (ab_v σ))) := by
    intro H1 locs1 hP1 hD1 hS1
    rw [hset] at hP1
    refine kk p l e s m args below meth c g A σ0 n0 C σ H1 locs1 ls ⟨s1, by rw [hx]; exact s2, ⟨hP1, by rw [hx]; exact s3.2.1, fun b hb => by rw [hx]; exact s3.2.2.1 b (by rw [← e1]; exact hb), ?_⟩, by rw [hx]; exact s4, hS1, s6, by rw [hx]; exact s7.2.2, by rw [hx]; exact s8⟩
    intro b j q hb hq
    rw [hx] at hb ⊢
    by_cases hba : b = a
    · subst hba
      rcases hcl s7.1 j q hq with h1 | h1
      · exact s3.2.2.2 b j q hb h1
      · exact h1
    · rw [e5 b j hba] at hq
      exact s3.2.2.2 b j q hb hq
  have hD := s3.D s4
  rcases hfin with rfl | ⟨hi, rfl, hcc⟩
  · exact va_put (D := g.1) (cl := vwCl) (ci := ci) (C := CC) (T := T) (N := N) (ref := (T k).1) (own := M.1.cls) (fs := ab_fs σ h a ci) (ty := ab_ty ci k) (v := ab_v σ v) C.1 C.2.1 hts f5 (ab_ty ci) f6 f7 C.2.2.2.2.2.1 C.2.2.2.2.2.2.2.1 s3.1 hD s5 a hws f1 k f4 (hts _ f8) (fun _ h9 => h9) f9 (f6 k f4) (hn σ) (hfit σ) (by rw [ab_fs_len, f3]; exact f4) d hgo
  · have hown : CC = M.1.cls := by rw [f1] at hcc; exact Option.some.inj hcc
    exact va_putF (D := g.1) (cl := vwCl) (ci := ci) (C := CC) (T := T) (N := N) (ref := (T k).1) (own := M.1.cls) (fs := ab_fs σ h a ci) (ty := ab_ty ci k) (v := ab_v σ v) C.1 C.2.1 hts f5 (ab_ty ci) f6 f7 C.2.2.2.2.2.1 C.2.2.2.2.2.2.2.1 s3.1 hD s5 a hws f1 k f4 (hts _ f8) (fun _ h9 => h9) f9 (C.2.2.2.2.2.2.2.2.2.1.trans hi) (f10.trans hown) (f6 k f4) (hn σ) (hfit σ) (by rw [ab_fs_len, f3]; exact f4) d hgo
abbrev ab_fin (M : ab_M) (ci : Nat) (fin : Bool) : Prop := fin = false ∨ (M.1.name = "<init>" ∧ fin = true ∧ vwCl[ci]?.map (fun q => q.1) = some M.1.cls)
theorem ab_putI {x : Int32} (hF : ab_F M.1.cls index ci k fin) (hfin : ab_fin M ci fin) (ht : ab_code (ab_ty ci k) = 0) (hk : ah_k h a = ci) (hn : narrow (ab_ty ci k) (.int x) = .int x) (hfit : fits (ab_ty ci k) (.int x) = true)
    (d : decode M.2.1 pc = .ok (.putfield index, 3)) (kk : Wp M Q c0 s0 (pc + 3) L st (ah_si h a k x)) : Wp M Q c0 s0 pc L (.int x :: .ref a :: st) h := by
  refine ab_put (v := .int x) (h' := ah_si h a k x) hF hfin hk (fun _ => hn) (fun _ => hfit) rfl (fun _ => rfl) (fun _ => rfl) (fun b j hb => ?_) (fun _ _ _ => rfl) (fun _ _ _ => rfl) (fun σ => ?_) (fun σ j hj => ?_) (fun _ j b hb => Or.inl hb) d kk
  · rw [ah_i_si, if_neg (fun q => hb q.1)]
  · rw [ab_fv_i ht, ah_i_si, if_pos ⟨rfl, rfl⟩]; rfl
  · have e : ah_i (ah_si h a k x) a j = ah_i h a j := by rw [ah_i_si]; exact if_neg (fun q => hj q.2)
    unfold ab_fv
    rw [e]
    rfl
theorem ab_putL {x : Int64} (hF : ab_F M.1.cls index ci k fin) (hfin : ab_fin M ci fin) (hty : ab_ty ci k = .long) (hk : ah_k h a = ci)
    (d : decode M.2.1 pc = .ok (.putfield index, 3)) (kk : Wp M Q c0 s0 (pc + 3) L st (ah_sl h a k x)) : Wp M Q c0 s0 pc L (.long x :: .ref a :: st) h := by
  refine ab_put (v := .long x) (h' := ah_sl h a k x) hF hfin hk (fun _ => by rw [hty]; rfl) (fun _ => by rw [hty]; rfl) rfl (fun _ => rfl) (fun _ => rfl) (fun _ _ _ => rfl) (fun b j hb => ?_) (fun _ _ _ => rfl) (fun σ => ?_) (fun σ j hj => ?_) (fun _ j b hb => Or.inl hb) d kk
  · rw [ah_l_sl, if_neg (fun q => hb q.1)]
  · rw [ab_fv_l (by rw [hty]; rfl), ah_l_sl, if_pos ⟨rfl, rfl⟩]; rfl
  · have e : ah_l (ah_sl h a k x) a j = ah_l h a j := by rw [ah_l_sl]; exact if_neg (fun q => hj q.2)
    unfold ab_fv
    rw [e]
    rfl
theorem ab_putR {r : Option Nat} (hF : ab_F M.1.cls index ci k fin) (hfin : ab_fin M ci fin) (ht : ab_code (ab_ty ci k) = 2) (hk : ah_k h a = ci) (hn : ∀ x, narrow (ab_ty ci k) (va_rf x) = va_rf x) (hfit : ∀ x, fits (ab_ty ci k) (va_rf x) = true)
    (d : decode M.2.1 pc = .ok (.putfield index, 3)) (kk : Wp M Q c0 s0 (pc + 3) L st (ah_sr h a k r)) : Wp M Q c0 s0 pc L (va_rf r :: .ref a :: st) h := by
  refine ab_put (v := va_rf r) (h' := ah_sr h a k r) hF hfin hk (fun σ => by rw [ab_v_rf]; exact hn _) (fun σ => by rw [ab_v_rf]; exact hfit _) rfl (fun _ => rfl) (fun _ => rfl) (fun _ _ _ => rfl) (fun _ _ _ => rfl) (fun b j hb => ?_) (fun σ => ?_) (fun σ j hj => ?_) (fun hv j b hb => ?_) d kk
  · rw [ah_r_sr, if_neg (fun q => hb q.1)]
  · rw [ab_fv_r ht, ah_r_sr, if_pos ⟨rfl, rfl⟩, ab_v_rf]
  · have e : ah_r (ah_sr h a k r) a j = ah_r h a j := by rw [ah_r_sr]; exact if_neg (fun q => hj q.2)
    unfold ab_fv
    rw [e]
    rfl
  · rw [ah_r_sr] at hb
    by_cases hj : j = k
    · rw [if_pos ⟨rfl, hj⟩] at hb
      rw [hb] at hv
      exact Or.inr hv
    · rw [if_neg (fun q => hj q.2)] at hb
      exact Or.inl hb
end FLD
