/-! ===== strangers: the model, and both ===== -/
section ST2
variable {KX : ah_T → Prop} {RX WX SX : (Nat → Nat) → ah_T → Prop} {A : Nat → Nat} {N : Nd} {h g h1 : ah_T} {g0 sp n : Nat} {p : Nat → Bool}
theorem mND_I {c k : Nat} (h10 : A 246 < 10) (hc : c < 12) (hk : k < 6) (m : mND A (nd0 A) g) : mND A (ndI A c k) (ah_si (ah_si (ah_si (ah_si g 100 (A 246) (nI c)) 101 (A 246) (nI k)) 82 41 (nI (A 246 + 1))) 82 43 1) := by
  obtain ⟨⟨d0, d1, d2, d3⟩, m2, m3, m4, m5, m6, m7⟩ := m
  refine ⟨⟨by show A 246 + 1 ≤ 10; omega, fun x hx => ?_, d2, d3⟩, by rw [ah_i_sn (by omega), ah_i_ss]; rfl, by rw [ah_i_sn (by omega), ah_i_sn (by omega), ah_i_sn (by omega), ah_i_sn (by omega)]; exact m3, by rw [ah_i_ss]; rfl, fun x hx => ?_, fun x hx => ?_, fun x y hx hy => by rw [ah_i_sn (by omega), ah_i_sn (by omega), ah_i_sn (by omega), ah_i_sn (by omega)]; exact m7 x y hx hy⟩
  · have hx2 : x < A 246 + 1 := hx
    show (if x = A 246 then c else A (60 + 3 * x)) < 12 ∧ (if x = A 246 then k else A (61 + 3 * x)) < 6
    by_cases z : x = A 246
    · rw [if_pos z, if_pos z]; exact ⟨hc, hk⟩
    · rw [if_neg z, if_neg z]; exact d1 x (by show x < A 246; omega)
  · have hx2 : x < A 246 + 1 := hx
    show _ = nI (if x = A 246 then c else A (60 + 3 * x)) ∧ _ = nI (if x = A 246 then k else A (61 + 3 * x))
    by_cases z : x = A 246
    · rw [if_pos z, if_pos z, z]
      exact ⟨by rw [ah_i_sn (by omega), ah_i_sn (by omega), ah_i_sn (by omega), ah_i_ss], by rw [ah_i_sn (by omega), ah_i_sn (by omega), ah_i_ss]⟩
    · rw [if_neg z, if_neg z]
      have := m5 x (by show x < A 246; omega)
      exact ⟨by rw [ah_i_sn (by omega), ah_i_sn (by omega), ah_i_sn (by omega), ah_i_sn (by omega)]; exact this.1, by rw [ah_i_sn (by omega), ah_i_sn (by omega), ah_i_sn (by omega), ah_i_sn (by omega)]; exact this.2⟩
  · have := m6 x hx
    rw [ah_i_sn (by omega), ah_i_sn (by omega), ah_i_sn (by omega), ah_i_sn (by omega)]
    exact ⟨this.1, fun m hm => by rw [ah_i_sn (by omega), ah_i_sn (by omega), ah_i_sn (by omega), ah_i_sn (by omega)]; exact this.2 m hm⟩
/-- between two tries of the model -/
def tyO (A : Nat → Nat) (h g : ah_T) : Prop := mdF h g ∧ mQs A g ∧ (ah_i g 82 49 = -1 ∨ (mNg A g ∧ ah_i g 82 49 = ah_i h 82 49))
theorem inv_to (X : XP KX RX WX) (hW : hWp KX RX) (hS : SXp SX) (p : preQ KX RX WX SX n A h) (t : tyO A h g) : Inv TXm (CCg KX RX WX) (CMg SX) n g := by
  rcases t.2.2 with y | y
  · exact inv_ty X hW hS p ⟨t.1, t.2.1, y⟩
  · exact inv_md X hW hS p t.1 t.2.1.2.1 y.1 (.inl y.2)
theorem tyO_0 (hs : Sh h) (p : preQ KX RX WX SX n A h) : tyO A h h := ⟨mdF_r hs, mQs_p p, .inr ⟨p.2.2.2.2.2.2.1, rfl⟩⟩
theorem mSo_p (p : preQ KX RX WX SX n A h) : mSo A h := by
  obtain ⟨⟨B0, B1, d, D, wf, tn, _⟩, _⟩ := p
  exact mSo_of wf tn
theorem cSo_p (p : preQ KX RX WX SX n A h) : cSo A h := by
  obtain ⟨⟨B0, B1, d, D, wf, tn, _⟩, _⟩ := p
  exact cSo_of wf tn
theorem rel_stranger (X : XP KX RX WX) (hW : hWp KX RX) (hS : SXp SX) (K : KRp KX RX) (KT : KTp KX) (W : Wp1 WX stX Cst) (b : Int32) : lw_RC (Inv TXm (CCg KX RX WX) (CMg SX) (n + 1)) (Inv TXm (CCg KX RX WX) (CMg SX) n) mX11_stranger mX12_stranger [.int b] := by
  intro h hI
  obtain ⟨hs, A, p⟩ := pre_of hI
  have p' := p
  obtain ⟨⟨B0, B1, d, D, wf, tn, _⟩, cc, cm⟩ := p'
  have h10 := wf.2.1.1
  have m246 := (mQs_p p).2.2.1.2.2.1
  have t246 : Int32.toNatClampNeg 246 = 246 := rfl
  have e0 : ah_i h 4 0 = nI 10 := tn.2.1.1
  have e3 : ah_i h 4 3 = nI (A 246) := tn.2.1.2.2.1
  have ten : nI (A 246) = 10 ↔ A 246 = 10 := by rw [show (10 : Int32) = nI 10 from rfl, nI_eq (by omega) (by omega)]
  refine T_X11_stranger hs b ?_
  refine c_full3 hs (t := 4) (room := 10) (m := A 246) (by omega) e0 e3 (by omega) h10 (fun full => ⟨_, rfl, hs, ?_⟩) (fun room => ⟨_, rfl, hs, ?_⟩)
  · (first | refine ⟨fun _ => ?_, fun n_ => absurd (show ¬ (1 : Int32) = 0 by decide) n_⟩ | refine ⟨fun n_ => absurd (show ¬ (1 : Int32) = 0 by decide) n_, fun _ => ?_⟩ | refine ⟨fun y_ => absurd y_ (show ¬ (1 : Int32) = 0 by decide), fun _ => ?_⟩ | refine ⟨fun _ => ?_, fun y_ => absurd y_ (show ¬ (1 : Int32) = 0 by decide)⟩)
    refine ⟨_, rfl, hs, T_X12_stranger hs _ ?_⟩
    rw [t246, m246]
    (first | refine ⟨fun _ => ?_, fun n_ => absurd (ten.mpr full) n_⟩ | refine ⟨fun n_ => absurd (ten.mpr full) n_, fun _ => ?_⟩ | refine ⟨fun y_ => absurd y_ (ten.mpr full), fun _ => ?_⟩ | refine ⟨fun _ => ?_, fun y_ => absurd y_ (ten.mpr full)⟩)
    exact ⟨_, rfl, rfl, inv_less hs p⟩
  (first | refine ⟨fun _ => ?_, fun n_ => absurd (show (0 : Int32) = 0 from rfl) n_⟩ | refine ⟨fun n_ => absurd (show (0 : Int32) = 0 from rfl) n_, fun _ => ?_⟩ | refine ⟨fun y_ => absurd y_ (show (0 : Int32) = 0 from rfl), fun _ => ?_⟩ | refine ⟨fun _ => ?_, fun y_ => absurd y_ (show (0 : Int32) = 0 from rfl)⟩)
  have nt : ¬ nI (A 246) = 10 := fun y => by have := ten.mp y; omega
  by_cases hb : -1 ≤ b
  · (first | refine ⟨fun _ => ?_, fun n_ => absurd (hb) n_⟩ | refine ⟨fun n_ => absurd (hb) n_, fun _ => ?_⟩ | refine ⟨fun y_ => absurd y_ (hb), fun _ => ?_⟩ | refine ⟨fun _ => ?_, fun y_ => absurd y_ (hb)⟩)
    refine lk1 hs X hS p (fun h6 g' s6 p6 lk6 pq => ?_)
    have kx := KT _ lk6.2.2.1
    refine c_findStrangers s6 lk6.1.1 lk6.1.2.1 lk6.1.2.2.1 (cSo_p p6) kx.1 (by omega) (W.1 _ _ lk6.2.2.2.2.1) (fun g f t d e62 e63 fo => ⟨rfl, f.1, ?_⟩)
    have e65 : ∀ j, ah_i g 65 j = ah_i h6 65 j := (f.2.2.1 65 (by omega) (by unfold Pst; omega)).1
    refine c_pick f.1 (.inl rfl) (by rw [if_pos rfl]; omega) (by rw [e63 1 (by omega)]; exact kx.1) fo hb (fun v rv => ⟨_, rfl, f.1, ?_⟩)
    have hP : ∀ a, Pst a → 60 < a ∧ a < 82 := fun a y => by unfold Pst at y; omega
    have lg := lkO_g K W hP f t d (fun a j w c => by
      by_cases z : a = 62
      · subst z
        exact e62 j (fun y => c (.inl ⟨rfl, y⟩)) (fun y => by unfold wxc Cwk Cst Ccg Cli Cwo Chg Cpc at w; omega)
      · have hp : ¬ Pst a := by
          rintro (y | y | y | y | y)
          · exact z y
          · exact c (.inr (.inl y))
          · exact c (.inr (.inr y))
          · unfold wxc Cwk Cst Ccg Cli Cwo Chg Cpc at w; omega
          · unfold wxc Cwk Cst Ccg Cli Cwo Chg Cpc at w; omega
        have hr : 53 < a := by
          unfold wxc Cwk Cst Ccg Cli Cwo Chg Cpc at w
          omega
        exact (f.2.2.1 a (by omega) hp).1 j) (fun j hj => ⟨e63 j hj, e65 j⟩) (.inr fo) lk6
    have pg := pq g (loF_gr hP f) lg
    refine ⟨_, rfl, f.1, T_X12_stranger f.1 _ ?_⟩
    rw [t246, (mQs_p pg).2.2.1.2.2.1]
    (first | refine ⟨fun _ => ?_, fun n_ => absurd (nt) n_⟩ | refine ⟨fun n_ => absurd (nt) n_, fun _ => ?_⟩ | refine ⟨fun y_ => absurd y_ (nt), fun _ => ?_⟩ | refine ⟨fun _ => ?_, fun y_ => absurd y_ (nt)⟩)
    (first | refine ⟨fun _ => ?_, fun n_ => absurd (hb) n_⟩ | refine ⟨fun n_ => absurd (hb) n_, fun _ => ?_⟩ | refine ⟨fun y_ => absurd y_ (hb), fun _ => ?_⟩ | refine ⟨fun _ => ?_, fun y_ => absurd y_ (hb)⟩)
    have lp : ∀ (q k : Nat) (u : ah_T), k + q = 72 → tyO A g u → (∀ x, x < k → stB A x = true → ¬ nI (cb (stB A) x) = b) → Wp mX12_stranger (ab_qi fun w h2 => v = w ∧ Inv TXm (CCg KX RX WX) (CMg SX) n h2) 0 0 24 [some (.ref 82), some (.int b), some (.int (nI (cb (stB A) k))), some (.int (nI k))] [] u := by
      intro q
      induction q with
      | zero =>
        intro k u hk ty no
        have e9 : k = 72 := by omega
        subst e9
        obtain ⟨r1, r2⟩ := pkR_e (by omega) rv no
        refine T_X12_stranger_24 ty.1.1 _ _ _ ?_
        (first | refine ⟨fun _ => ?_, fun n_ => absurd (show 72 ≤ nI 72 from nI_le (a := 72) (by omega) (by omega)) n_⟩ | refine ⟨fun n_ => absurd (show 72 ≤ nI 72 from nI_le (a := 72) (by omega) (by omega)) n_, fun _ => ?_⟩ | refine ⟨fun y_ => absurd y_ (show 72 ≤ nI 72 from nI_le (a := 72) (by omega) (by omega)), fun _ => ?_⟩ | refine ⟨fun _ => ?_, fun y_ => absurd y_ (show 72 ≤ nI 72 from nI_le (a := 72) (by omega) (by omega))⟩)
        exact ⟨fun y => ⟨_, rfl, r2 y, inv_to X hW hS pg ty⟩, fun y => ⟨_, rfl, r1 y, inv_to X hW hS pg ty⟩⟩
      | succ q ih =>
        intro k u hk ty no
        refine T_X12_stranger_24 ty.1.1 _ _ _ ?_
        (first | refine ⟨fun _ => ?_, fun n_ => absurd (show ¬ 72 ≤ nI k from nI_ge (b := 72) (by omega) (by omega)) n_⟩ | refine ⟨fun n_ => absurd (show ¬ 72 ≤ nI k from nI_ge (b := 72) (by omega) (by omega)) n_, fun _ => ?_⟩ | refine ⟨fun y_ => absurd y_ (show ¬ 72 ≤ nI k from nI_ge (b := 72) (by omega) (by omega)), fun _ => ?_⟩ | refine ⟨fun _ => ?_, fun y_ => absurd y_ (show ¬ 72 ≤ nI k from nI_ge (b := 72) (by omega) (by omega))⟩)
        rw [show (6 : Int32) = nI 6 from rfl, nI_remI (by omega) (by omega), nI_divI (by omega) (by omega), nI_1, nI_1]
        refine m_looks ty.1.1 ty.2.1.2.2.1 (fun g1 f1 d1 => ⟨rfl, f1.1, ?_⟩)
        have e41 : ah_i g1 82 41 = nI (A 246) := d1.2.1
        have v10 : vp_in (nI (A 246)) 10 := (vp_nI (by omega)).mpr room
        rw [e41, nI_clamp (show A 246 < 2 ^ 31 by omega), sh_n f1.1 100 10 (by decide) (by decide) rfl]
        refine ⟨v10, ?_⟩
        intro h9 q9
        have f9 : lkF g1 h9 := by rw [q9]; exact lkF_s (by omega) ⟨f1.1, rfl, fun _ _ _ _ _ _ _ => eqc_rfl, fun _ _ _ _ => rfl⟩
        have e49 : ah_i h9 82 41 = nI (A 246) := by rw [q9, ah_i_sn (by omega)]; exact e41
        rw [e49, nI_clamp (show A 246 < 2 ^ 31 by omega), sh_n f9.1 101 10 (by decide) (by decide) rfl]
        refine ⟨v10, ?_⟩
        intro h13 q13 h16 q16 h19 q19
        have e13 : ah_i h13 82 41 + 1 = nI (A 246 + 1) := by rw [q13, ah_i_sn (by omega), e49, nI_1]
        rw [e13, q13, q9] at q16
        rw [q16] at q19
        have d19 : mND A (ndI A (k / 6) (k % 6)) h19 := by rw [q19]; exact mND_I room (by omega) (by omega) d1
        have f19 : lkF u h19 := by rw [q19]; exact lkF_s (by omega) (lkF_s (by omega) (lkF_s (by omega) (lkF_s (by omega) f1)))
        have b19 := mBa_l f19 d19 (Nat.le_succ _) ty.2.1
        refine m_tries f19.1 b19 (by show A 246 + 1 ≤ A 246 + 1; omega) (fun g3 M f3 b3 hM t3 k7 k8 o e49' ej => ⟨rfl, f3.1, ?_⟩)
        have eM : M = 120 := by
          rcases o with o | o
          · exact o
          · exact absurd rfl o.1
        subst eM
        have ly := lyF_t (lyF_l f19) f3
        have md := mdF_t ty.1 (mdF_ly ly)
        have ty3 : tyO A g g3 := ⟨md, mQ_b ly b3 ty.2.1, .inl e49'⟩
        refine m_areSo f3.1 t3 (mSo_fr (fun j => (md.2.2.1 84 (by omega)).1 j) (mSo_p pg)) (Nat.le_succ _) (by show A 246 + 1 ≤ 10; omega) ⟨_, rfl, f3.1, ?_⟩
        have eB : soB A (ndI A (k / 6) (k % 6)) (A 250) = stB A k := rfl
        rw [eB, bI_0]
        refine ⟨fun y => ⟨fun z => ?_, fun z => ?_⟩, fun y => ?_⟩
        · have y1 : stB A k = true := by cases e : stB A k; exact absurd e y; rfl
          rw [← cb_s1 y1]
          refine ih (k + 1) g3 (by omega) ty3 (fun x hx px => ?_)
          by_cases w : x = k
          · subst w; exact z
          · exact no x (by omega) px
        · have y1 : stB A k = true := by cases e : stB A k; exact absurd e y; rfl
          exact ⟨_, rfl, pkR_k (by omega) rv (show k < 72 by omega) y1 z, inv_to X hW hS pg ty3⟩
        · rw [← cb_s0 y]
          refine ih (k + 1) g3 (by omega) ty3 (fun x hx px => ?_)
          by_cases w : x = k
          · subst w; rw [y] at px; exact absurd px (by decide)
          · exact no x (by omega) px
    exact lp 72 0 g (by omega) (tyO_0 f.1 pg) (fun x y => absurd y (by omega))
  · (first | refine ⟨fun _ => ?_, fun n_ => absurd (hb) n_⟩ | refine ⟨fun n_ => absurd (hb) n_, fun _ => ?_⟩ | refine ⟨fun y_ => absurd y_ (hb), fun _ => ?_⟩ | refine ⟨fun _ => ?_, fun y_ => absurd y_ (hb)⟩)
    refine ⟨_, rfl, hs, T_X12_stranger hs _ ?_⟩
    rw [t246, m246]
    (first | refine ⟨fun _ => ?_, fun n_ => absurd (nt) n_⟩ | refine ⟨fun n_ => absurd (nt) n_, fun _ => ?_⟩ | refine ⟨fun y_ => absurd y_ (nt), fun _ => ?_⟩ | refine ⟨fun _ => ?_, fun y_ => absurd y_ (nt)⟩)
    (first | refine ⟨fun _ => ?_, fun n_ => absurd (hb) n_⟩ | refine ⟨fun n_ => absurd (hb) n_, fun _ => ?_⟩ | refine ⟨fun y_ => absurd y_ (hb), fun _ => ?_⟩ | refine ⟨fun _ => ?_, fun y_ => absurd y_ (hb)⟩)
    exact ⟨_, rfl, rfl, inv_less hs p⟩
end ST2
