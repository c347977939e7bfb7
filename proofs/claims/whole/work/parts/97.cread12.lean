/-! ===== the class's reader of texts: the clauses one by one, the new text ===== -/
section CL
variable {cs vs pl : Nat → Nat} {n : Nat} {ro : Bool} {h0 h : ah_T}
theorem lt_123 (hs : Sh h) {a : Nat} (ha : a < 123) : a < ah_x h := by have := hs.2.2; omega
theorem clO_f {f f' : Nat → Int32} {q : Nat} {c : Nat → Nat} {u : Nat → Int32} {cl : Cl} (hf : ∀ j, j < 6 → f' j = f j) (o : clO ro f c q u cl) : clO ro f' c q u cl := by
  obtain ⟨o1, o2, o3, o4, o5, o6, o7, o8⟩ := o
  exact ⟨by rw [hf 0 (by omega)]; exact o1, o2, by rw [hf 1 (by omega)]; exact o3, by rw [hf 2 (by omega)]; exact o4, by rw [hf 3 (by omega)]; exact o5, fun e => by rw [hf 4 (by omega)]; exact o6 e, by rw [hf 5 (by omega)]; exact o7, o8⟩
/-- the new text -/
theorem c_new {Q : Option Value → ah_T → Prop} {i q lv k : Nat} {c : Nat → Nat} {wd : Int32} {T U : Nat → Int32} {acc : List Cl} {x y : Int32} (r : rS h0 h i q lv c wd T U) (hq : q ≤ 500) (hk : k < 12) (ex : x = nI k) (ey : y = nI (6 * k)) (ha : acc.length = k + 1) (la : laid ro T c q U acc)
    (kq : ∀ h', wFr h0 h' → ah_x h' = ah_x h0 + 4 → ah_i h' 20 0 = -1 → tx h' (ah_x h0) ro acc → Q (some (va_rf (some (ah_x h0)))) h') :
    ∀ h72, h72 = ah_si h 20 0 (-1) → (∀ w75, w75 = ah_x h72 → (∀ h77, h77 = ah_nw h72 9 0 → (Mt mJ7_copyOf_59c91 [.ref 23, .int (ah_i h77 20 7)] h77 (ab_qr fun v83 h81 => Sh h81 ∧ ah_k h81 w75 = 9 ∧ (∃ b85, v83 = some b85 ∧ ah_k h81 b85 = 14 ∧ (Mt mJ7_copyOf_59c91 [.ref 24, .int (y + 6)] h81 (ab_qr fun v89 h87 => Sh h87 ∧ ah_k h87 b85 = 14 ∧ ah_k h87 w75 = 9 ∧ (∃ b92, v89 = some b92 ∧ ah_k h87 b92 = 14 ∧ ((((0 + 4) + 500) + 500) + ah_n h87 25 ≤ 1010) ∧ (∀ w95, w95 = ah_x h87 → (∀ h97, h97 = ah_sa (ah_nw h87 14 (ah_n h87 25)) w95 (ah_i h87 25) → (¬ b85 = ah_x h87) ∧ (¬ w75 = ah_x h87) ∧ (¬ b92 = ah_x h87) ∧ (Mt nX9_init [.ref w75, .ref b85, .ref b92, .int (x + 1), .ref w95] h97 (ab_qv fun h107 => Sh h107 ∧ ah_k h107 w75 = 9 ∧ Q (some (va_rf (some w75))) h107)))))))))))) := by
  subst ex ey
  rintro h72 rfl w75 rfl h77 rfl
  obtain ⟨r1, r2, r3, r4, r5, r6, r7, r8⟩ := r
  have hs := r1.1
  have hx : ah_x h = ah_x h0 := r1.2.1
  have hx3 := hs.2.2
  have n23 : ∀ {h}, Sh h → ah_n h 23 = 500 := fun hs => sh_n hs 23 500 (by decide) (by decide) rfl
  have n25 : ∀ {h}, Sh h → ah_n h 25 = 5 := fun hs => sh_n hs 25 5 (by decide) (by decide) rfl
  -- the object
  generalize eg : ah_nw (ah_si h 20 0 (-1)) 9 0 = g
  have gs : Sh g := by rw [← eg]; exact sh_nw (sh_si hs)
  have gx : ah_x g = ah_x h + 1 := by rw [← eg, ah_x_nw, ah_x_si]
  have gk : ah_k g (ah_x h) = 9 := by rw [← eg, ah_k_nw, ah_x_si, if_pos rfl]
  have ge : ∀ a, a ≠ ah_x h → a ≠ 20 → eqc h g a := fun a n1 n2 => by rw [← eg]; exact eqc_nw (eqc_si eqc_rfl n2) (by rw [ah_x_si]; exact n1)
  have g20 : ∀ j, j ≠ 0 → ah_i g 20 j = ah_i h 20 j := fun j hj => by rw [← eg, ah_i_nw, if_neg (by rw [ah_x_si]; omega), ah_i_sn (by omega)]
  have g200 : ah_i g 20 0 = -1 := by rw [← eg, ah_i_nw, if_neg (by rw [ah_x_si]; omega), ah_i_ss]
  rw [ah_x_si, g20 7 (by omega), r3]
  refine c_copyOf gs rfl (sh_k gs 23 14 (by decide) rfl) (by rw [n23 gs]; exact hq) (by rw [n23 gs]; omega) (lt_123 gs (by omega)) (fun p ⟨p1, p2, p3, p4, p5, p6⟩ => ?_)
  have pk : ah_k p (ah_x h) = 9 := by rw [(p3 _ (by omega)).2.2.2.1]; exact gk
  refine ⟨_, rfl, p1, pk, _, rfl, p4, ?_⟩
  have e6 : nI (6 * k) + 6 = nI (6 * (k + 1)) := by rw [n_6, nI_add]; exact congrArg nI (by omega)
  refine c_copyOf p1 e6 (sh_k p1 24 14 (by decide) rfl) (by rw [n24 p1]; omega) (by rw [n24 p1]; omega) (lt_123 p1 (by omega)) (fun u ⟨u1, u2, u3, u4, u5, u6⟩ => ?_)
  have ua : eqc p u (ah_x h) := u3 _ (by omega)
  have ub : eqc p u (ah_x g) := u3 _ (by omega)
  refine ⟨_, rfl, u1, by rw [ub.2.2.2.1]; exact p4, by rw [ua.2.2.2.1]; exact pk, _, rfl, u4, by rw [n25 u1]; omega, ?_⟩
  rintro w95 rfl h97 rfl
  refine ⟨by omega, by omega, by omega, ?_⟩
  generalize ev : ah_sa (ah_nw u 14 (ah_n u 25)) (ah_x u) (ah_i u 25) = v
  have vs : Sh v := by rw [← ev]; exact sh_sa (sh_nw u1)
  have vx : ah_x v = ah_x u + 1 := by rw [← ev, ah_x_sa, ah_x_nw]
  have ve : ∀ a, a ≠ ah_x u → eqc u v a := fun a n1 => by rw [← ev]; exact eqc_sa (eqc_nw eqc_rfl n1) n1
  have vk : ah_k v (ah_x u) = 14 := by rw [← ev, ah_k_sa, ah_k_nw, if_pos rfl]
  have vn : ah_n v (ah_x u) = 5 := by rw [← ev, ah_n_sa, ah_n_nw, if_pos rfl]; exact n25 u1
  have vi : ∀ j, ah_i v (ah_x u) j = ah_i u 25 j := fun j => by rw [← ev, ah_i_sa, if_pos rfl]
  have xg : ah_x g = ah_x h + 1 := gx
  have xp : ah_x p = ah_x h + 2 := by omega
  have xu : ah_x u = ah_x h + 3 := by omega
  have va : eqc u v (ah_x h) := ve _ (by omega)
  have vb : eqc u v (ah_x g) := ve _ (by omega)
  have vc : eqc u v (ah_x p) := ve _ (by omega)
  have k1 : ah_k v (ah_x h) = 9 := by rw [va.2.2.2.1, ua.2.2.2.1]; exact pk
  have k2 : ah_k v (ah_x g) = 14 := by rw [vb.2.2.2.1, ub.2.2.2.1]; exact p4
  have k3 : ah_k v (ah_x p) = 14 := by rw [vc.2.2.2.1]; exact u4
  refine T_X9_init (ah_x h) (ah_x g) (ah_x p) _ (ah_x u) k1 k2 k3 vk ?_
  rintro h1 rfl h8 rfl h15 rfl h22 rfl
  have fs : Sh (ah_sr (ah_si (ah_sr (ah_sr v (ah_x h) 0 (some (ah_x g))) (ah_x h) 1 (some (ah_x p))) (ah_x h) 2 (nI k + 1)) (ah_x h) 3 (some (ah_x u))) := sh_sr2 (sh_si (sh_sr2 (sh_sr2 vs (by omega)) (by omega))) (by omega)
  have e1 : nI k + 1 = nI (k + 1) := nI_1 _
  rw [e1] at fs ⊢
  have fe : ∀ a, a ≠ ah_x h → eqc v (ah_sr (ah_si (ah_sr (ah_sr v (ah_x h) 0 (some (ah_x g))) (ah_x h) 1 (some (ah_x p))) (ah_x h) 2 (nI (k + 1))) (ah_x h) 3 (some (ah_x u))) a := fun a n1 => eqc_sr (eqc_si (eqc_sr (eqc_sr eqc_rfl n1) n1) n1) n1
  have f0 : ah_r (ah_sr (ah_si (ah_sr (ah_sr v (ah_x h) 0 (some (ah_x g))) (ah_x h) 1 (some (ah_x p))) (ah_x h) 2 (nI (k + 1))) (ah_x h) 3 (some (ah_x u))) (ah_x h) 0 = some (ah_x g) := by
    rw [ah_r_sr, if_neg (by omega), ah_r_si, ah_r_sr, if_neg (by omega), ah_r_sr, if_pos ⟨rfl, rfl⟩]
  have f1 : ah_r (ah_sr (ah_si (ah_sr (ah_sr v (ah_x h) 0 (some (ah_x g))) (ah_x h) 1 (some (ah_x p))) (ah_x h) 2 (nI (k + 1))) (ah_x h) 3 (some (ah_x u))) (ah_x h) 1 = some (ah_x p) := by
    rw [ah_r_sr, if_neg (by omega), ah_r_si, ah_r_sr, if_pos ⟨rfl, rfl⟩]
  have f3 : ah_r (ah_sr (ah_si (ah_sr (ah_sr v (ah_x h) 0 (some (ah_x g))) (ah_x h) 1 (some (ah_x p))) (ah_x h) 2 (nI (k + 1))) (ah_x h) 3 (some (ah_x u))) (ah_x h) 3 = some (ah_x u) := by
    rw [ah_r_sr, if_pos ⟨rfl, rfl⟩]
  have f2 : ah_i (ah_sr (ah_si (ah_sr (ah_sr v (ah_x h) 0 (some (ah_x g))) (ah_x h) 1 (some (ah_x p))) (ah_x h) 2 (nI (k + 1))) (ah_x h) 3 (some (ah_x u))) (ah_x h) 2 = nI (k + 1) := by
    rw [ah_i_sr, ah_i_ss]
  have fx : ah_x (ah_sr (ah_si (ah_sr (ah_sr v (ah_x h) 0 (some (ah_x g))) (ah_x h) 1 (some (ah_x p))) (ah_x h) 2 (nI (k + 1))) (ah_x h) 3 (some (ah_x u))) = ah_x h + 4 := by
    rw [ah_x_sr, ah_x_si, ah_x_sr, ah_x_sr, vx, xu]
  have fk : ah_k (ah_sr (ah_si (ah_sr (ah_sr v (ah_x h) 0 (some (ah_x g))) (ah_x h) 1 (some (ah_x p))) (ah_x h) 2 (nI (k + 1))) (ah_x h) 3 (some (ah_x u))) (ah_x h) = 9 := by
    rw [ah_k_sr, ah_k_si, ah_k_sr, ah_k_sr]; exact k1
  revert fs fe f0 f1 f3 f2 fx fk
  generalize (ah_sr (ah_si (ah_sr (ah_sr v (ah_x h) 0 (some (ah_x g))) (ah_x h) 1 (some (ah_x p))) (ah_x h) 2 (nI (k + 1))) (ah_x h) 3 (some (ah_x u))) = f
  intro fs fe f0 f1 f3 f2 fx fk
  refine ⟨rfl, fs, fk, ?_⟩
  -- from h to f: all old cells but 20
  have all : ∀ a, a < ah_x h → a ≠ 20 → eqc h f a := fun a h1 h2 => eqc_trans (eqc_trans (eqc_trans (eqc_trans (ge a (by omega) h2) (p3 a (by omega))) (u3 a (by omega))) (ve a (by omega))) (fe a (by omega))
  have gf : ∀ a, a < ah_x h → eqc g f a := fun a h1 => eqc_trans (eqc_trans (eqc_trans (p3 a (by omega)) (u3 a (by omega))) (ve a (by omega))) (fe a (by omega))
  have c1 : eqc p f (ah_x g) := eqc_trans (eqc_trans ub vb) (fe _ (by omega))
  have c2 : eqc u f (ah_x p) := eqc_trans vc (fe _ (by omega))
  have c3 : eqc v f (ah_x u) := fe _ (by omega)
  rw [hx]
  rw [xg, hx] at f0 c1
  rw [xp, hx] at f1 c2
  rw [xu, hx] at f3 c3
  rw [hx] at f2 fk
  refine kq f ⟨fs, by omega, fun a h1 n1 n2 n3 n4 => ?_⟩ (by omega) (by rw [(gf 20 (by omega)).1]; exact g200) ⟨⟨by omega, by omega, fk, by rw [c1.2.2.2.1]; rw [xg, hx] at p4; exact p4, by rw [c2.2.2.2.1]; rw [xp, hx] at u4; exact u4, by rw [c3.2.2.2.1]; rw [xu, hx] at vk; exact vk⟩, f0, f1, f3, by rw [ha]; exact f2, by omega, by rw [c2.2.2.2.2, ha]; rw [xp, hx] at u5; exact u5, by rw [c3.2.2.2.2]; rw [xu, hx] at vn; exact vn, c, q, hq, by rw [c1.2.2.2.2]; rw [xg, hx] at p5; exact p5, fun j hj => ?_, fun j hj => ?_⟩
  · exact eqc_trans (r1.2.2.1 a n1 n2 n3 n4) (all a (by omega) n1)
  · rw [c1.1]
    rw [xg, hx] at p6
    rw [p6 j hj, (ge 23 (by omega) (by decide)).1]
    exact r6 j hj
  · rw [ha] at hj
    have o := la j (by omega)
    have ef : (fun j1 => ah_i f (ah_x h0 + 2) (6 * j + j1)) = fun j1 => ah_i u (ah_x h0 + 2) (6 * j + j1) := funext fun j1 => c2.1 _
    have eu : (fun v1 => ah_i f (ah_x h0 + 3) v1) = U := funext fun v1 => by
      rw [xu, hx] at vi
      rw [c3.1, vi, (u3 25 (by omega)).1, (p3 25 (by omega)).1, (ge 25 (by omega) (by decide)).1]
      exact r8 v1
    rw [ef, eu]
    have et : ∀ j1, j1 < 6 → ah_i u (ah_x h0 + 2) (6 * j + j1) = T (6 * j + j1) := fun j1 h1 => by
      rw [xp, hx] at u6
      rw [u6 _ (by omega), (p3 24 (by omega)).1, (ge 24 (by omega) (by decide)).1]
      exact r7 _
    exact clO_f et o
end CL
