/-! ===== the darkest way of one lantern more: the class ===== -/
def pw : Nat → Nat
  | 0 => 1
  | s + 1 => 12 * pw s
def dg (n r g : Nat) : Nat := r / pw (n - 1 - g) % 12
def aG (c n r g : Nat) : Nat := if g = 0 then c else dg n r (g - 1)
noncomputable def okS (A : Nat → Nat) (c n r : Nat) : Nat → Bool
  | 0 => true
  | g + 1 => okS A c n r g && (decide (dg n r g = aG c n r g) || @decide (Ew A noS (aG c n r g) (dg n r g)) (Classical.propDecidable _))
def goE (m c n r e j : Nat) : Nat := if j < m then 0 else aG c n r (min (j - m) e) + 1
def goP (m c n r j : Nat) : Nat := goE m c n r n j
noncomputable def wT (A : Nat → Nat) (k m c n r : Nat) : Nat := ct (litM A (ndC A k (goP m c n r))) (A 246) 120
noncomputable def woF (A : Nat → Nat) (k m c n : Nat) : Nat → Nat × Nat
  | 0 => (1201, 0)
  | r + 1 => if okS A c n r n = true ∧ wT A k m c n r < (woF A k m c n r).1 then (wT A k m c n r, r) else woF A k m c n r
section WR
variable {KX : ah_T → Prop} {RX WX SX : (Nat → Nat) → ah_T → Prop} {A : Nat → Nat} {N : Nd} {h g h1 : ah_T} {g0 sp n k m c r : Nat} {p : Nat → Nat} {S : Ns}
theorem pw_le : ∀ {s : Nat}, s ≤ 3 → 1 ≤ pw s ∧ pw s ≤ 1728
  | 0, _ => by show 1 ≤ 1 ∧ 1 ≤ 1728; omega
  | 1, _ => by show 1 ≤ 12 ∧ 12 ≤ 1728; omega
  | 2, _ => by show 1 ≤ 144 ∧ 144 ≤ 1728; omega
  | 3, _ => by show 1 ≤ 1728 ∧ 1728 ≤ 1728; omega
theorem dg_lt (n r g : Nat) : dg n r g < 12 := Nat.mod_lt _ (by omega)
theorem aG_lt (hc : c < 12) (g : Nat) : aG c n r g < 12 := by
  unfold aG
  split
  · exact hc
  · exact dg_lt _ _ _
theorem goP_le (hc : c < 12) (j : Nat) : goP m c n r j ≤ 12 := by
  unfold goP goE
  split
  · omega
  · have := aG_lt (n := n) (r := r) hc (min (j - m) n); omega
theorem goP_0 {j : Nat} (hj : j < m) : goP m c n r j = 0 := if_pos hj
theorem wT_le (h10 : A 246 ≤ 10) : wT A k m c n r ≤ 1200 := by
  have a := ct_le (litM A (ndC A k (goP m c n r))) (A 246) 120
  have b : 120 * A 246 ≤ 120 * 10 := Nat.mul_le_mul (Nat.le_refl _) h10
  unfold wT
  omega
theorem woF_s (r : Nat) : woF A k m c n (r + 1) = if okS A c n r n = true ∧ wT A k m c n r < (woF A k m c n r).1 then (wT A k m c n r, r) else woF A k m c n r := rfl
theorem woF_le : ∀ r, (woF A k m c n r).1 ≤ 1201 ∧ (woF A k m c n r).2 ≤ r
  | 0 => ⟨by show 1201 ≤ 1201; omega, by show 0 ≤ 0; omega⟩
  | r + 1 => by
    have ih := woF_le r
    rw [woF_s]
    split
    · rename_i y; exact ⟨by show wT A k m c n r ≤ 1201; omega, by show r ≤ r + 1; omega⟩
    · exact ⟨ih.1, by omega⟩
/-- ahead of its minute all is as without it -/
theorem wT_ge (hm : m < 120) : ct (litM A (nd0 A)) (A 246) m ≤ wT A k m c n r := by
  rw [← ct_C (A := A) (k := k) (p := goP m c n r) (fun x hx => goP_0 hx)]
  exact ct_mono _ _ (by omega)
theorem woF_ge (h10 : A 246 ≤ 10) (hm : m < 120) : ∀ r, ct (litM A (nd0 A)) (A 246) m ≤ (woF A k m c n r).1
  | 0 => by
    have a := ct_le (litM A (nd0 A)) (A 246) m
    have b : m * A 246 ≤ 120 * 10 := Nat.mul_le_mul (by omega) h10
    show _ ≤ 1201
    omega
  | r + 1 => by
    rw [woF_s]
    split
    · exact wT_ge hm
    · exact woF_ge h10 hm r
theorem pw_d {s : Nat} : pw (s + 1) / 12 = pw s := by show 12 * pw s / 12 = pw s; omega
def ug (n g : Nat) : Nat := if g ≤ n then pw (n - g) else 0
theorem ug_s {g : Nat} : ug n g / 12 = ug n (g + 1) := by
  unfold ug
  by_cases y : g + 1 ≤ n
  · rw [if_pos (by omega), if_pos y, show n - g = (n - (g + 1)) + 1 by omega, pw_d]
  · rw [if_neg y]
    by_cases z : g ≤ n
    · rw [if_pos z, show n - g = 0 by omega]; rfl
    · rw [if_neg z]
theorem ug_le (hn : n ≤ 3) (g : Nat) : ug n g ≤ 1728 := by
  unfold ug
  split
  · exact (pw_le (by omega)).2
  · omega
theorem c_layTrial {Q : Option Value → ah_T → Prop} (hs : Sh h) (nb : nbO (Ew A noS) h 30) (hc : c < 12) (hm : m < 120) (hn : n ≤ 3) (hr : r < pw n) {x1 x2 x3 x4 : Int32} (e1 : x1 = nI r) (e2 : x2 = nI (pw n)) (e3 : x3 = nI m) (e4 : x4 = nI c)
    (hq : ∀ g, Sh g → ah_x g = ah_x h → (∀ a, a ≠ 71 → eqc h g a) → (okS A c n r n = true → ∀ j, j < 120 → ah_i g 71 j = nO (goP m c n r j)) → Q (some (.int (bI (okS A c n r n)))) g) : Mt mX1_layTrial [.ref 62, .int x1, .int x2, .int x3, .int x4] h Q := by
  subst e1 e2 e3 e4
  have pn := pw_le hn
  have k71 : ∀ {g : ah_T}, Sh g → ah_k g 71 = 14 := fun hs => sh_k hs 71 14 (by decide) rfl
  have n71 : ∀ {g : ah_T}, Sh g → ah_n g 71 = 120 := fun hs => sh_n hs 71 120 (by decide) (by decide) rfl
  refine T_X1_layTrial hs _ _ _ _ ?_
  refine c_fill hs 71 0 m (-1) 0 (nI m) rfl rfl (k71 hs) (by rw [n71 hs]; omega) (by omega) (by rw [n71 hs]; omega) ⟨rfl, sh_fl hs, ?_⟩
  -- behind some goes
  have st : ∀ (q e : Nat) (u : ah_T), e + q = n → Sh u → ah_x u = ah_x h → (∀ a, a ≠ 71 → eqc h u a) → (∀ j, j < 120 → ah_i u 71 j = nO (goE m c n r e j)) → okS A c n r e = true → Wp mX1_layTrial Q 0 0 20 [some (.ref 62), some (.int (nI r)), none, some (.int (nI m)), none, some (.int (nI (aG c n r e))), some (.int (nI (ug n (e + 1)))), some (.int (nI (m + (e + 1)))), none] [] u := by
    intro q
    induction q with
    | zero =>
      intro e u he s x f t o
      have e9 : e = n := by omega
      subst e9
      have fin := hq u s x f (fun _ => t)
      rw [o] at fin
      refine T_X1_layTrial_20 s _ _ _ _ _ ?_
      rw [show ug e (e + 1) = 0 from if_neg (by omega), show (12 : Int32) = nI 12 from rfl, nI_add]
      (first | refine ⟨fun _ => ?_, fun n_ => absurd (show ¬ nI (m + 12) ≤ nI (m + (e + 1)) from nI_ge (by omega) (by omega)) n_⟩ | refine ⟨fun n_ => absurd (show ¬ nI (m + 12) ≤ nI (m + (e + 1)) from nI_ge (by omega) (by omega)) n_, fun _ => ?_⟩ | refine ⟨fun y_ => absurd y_ (show ¬ nI (m + 12) ≤ nI (m + (e + 1)) from nI_ge (by omega) (by omega)), fun _ => ?_⟩ | refine ⟨fun _ => ?_, fun y_ => absurd y_ (show ¬ nI (m + 12) ≤ nI (m + (e + 1)) from nI_ge (by omega) (by omega))⟩)
      (first | refine ⟨fun _ => ?_, fun n_ => absurd (show nI 0 ≤ 0 from nI_le (b := 0) (Nat.le_refl _) (by omega)) n_⟩ | refine ⟨fun n_ => absurd (show nI 0 ≤ 0 from nI_le (b := 0) (Nat.le_refl _) (by omega)) n_, fun _ => ?_⟩ | refine ⟨fun y_ => absurd y_ (show nI 0 ≤ 0 from nI_le (b := 0) (Nat.le_refl _) (by omega)), fun _ => ?_⟩ | refine ⟨fun _ => ?_, fun y_ => absurd y_ (show nI 0 ≤ 0 from nI_le (b := 0) (Nat.le_refl _) (by omega))⟩)
      exact fin
    | succ q ih =>
      intro e u he s x f t o
      have he2 : e + 1 ≤ n := by omega
      have eu : ug n (e + 1) = pw (n - (e + 1)) := if_pos he2
      have pu := pw_le (show n - (e + 1) ≤ 3 by omega)
      have al := aG_lt (n := n) (r := r) hc e
      have dl := dg_lt n r e
      have ed : r / pw (n - (e + 1)) % 12 = dg n r e := by unfold dg; rw [show n - 1 - e = n - (e + 1) by omega]
      have ag : aG c n r (e + 1) = dg n r e := by unfold aG; rw [if_neg (by omega)]; rfl
      refine T_X1_layTrial_20 s _ _ _ _ _ ?_
      rw [eu, show (12 : Int32) = nI 12 from rfl, nI_divI (by omega) (by omega), nI_divI (by omega) (by omega), nI_remI (by have := Nat.div_le_self r (pw (n - (e + 1))); omega) (by omega), nI_add, nI_1, ed, ← eu, ug_s]
      (first | refine ⟨fun _ => ?_, fun n_ => absurd (show ¬ nI (m + 12) ≤ nI (m + (e + 1)) from nI_ge (by omega) (by omega)) n_⟩ | refine ⟨fun n_ => absurd (show ¬ nI (m + 12) ≤ nI (m + (e + 1)) from nI_ge (by omega) (by omega)) n_, fun _ => ?_⟩ | refine ⟨fun y_ => absurd y_ (show ¬ nI (m + 12) ≤ nI (m + (e + 1)) from nI_ge (by omega) (by omega)), fun _ => ?_⟩ | refine ⟨fun _ => ?_, fun y_ => absurd y_ (show ¬ nI (m + 12) ≤ nI (m + (e + 1)) from nI_ge (by omega) (by omega))⟩)
      have up : 0 < ug n (e + 1) := by rw [eu]; omega
      have ul := ug_le hn (e + 1)
      (first | refine ⟨fun _ => ?_, fun n_ => absurd (show ¬ nI (ug n (e + 1)) ≤ 0 from nI_ge (a := 0) up (by omega)) n_⟩ | refine ⟨fun n_ => absurd (show ¬ nI (ug n (e + 1)) ≤ 0 from nI_ge (a := 0) up (by omega)) n_, fun _ => ?_⟩ | refine ⟨fun y_ => absurd y_ (show ¬ nI (ug n (e + 1)) ≤ 0 from nI_ge (a := 0) up (by omega)), fun _ => ?_⟩ | refine ⟨fun _ => ?_, fun y_ => absurd y_ (show ¬ nI (ug n (e + 1)) ≤ 0 from nI_ge (a := 0) up (by omega))⟩)
      (first | refine ⟨fun _ => ?_, fun n_ => absurd (show ¬ nI (m + (e + 1)) ≤ nI m from nI_ge (by omega) (by omega)) n_⟩ | refine ⟨fun n_ => absurd (show ¬ nI (m + (e + 1)) ≤ nI m from nI_ge (by omega) (by omega)) n_, fun _ => ?_⟩ | refine ⟨fun y_ => absurd y_ (show ¬ nI (m + (e + 1)) ≤ nI m from nI_ge (by omega) (by omega)), fun _ => ?_⟩ | refine ⟨fun _ => ?_, fun y_ => absurd y_ (show ¬ nI (m + (e + 1)) ≤ nI m from nI_ge (by omega) (by omega))⟩)
      refine ⟨?_, ?_⟩
      · intro y
        have : ug n (e + 1) = 0 := by
          rw [show (0 : Int32) = nI 0 from rfl, nI_eq (by omega) (by omega)] at y
          exact y
        omega
      have nx : (decide (dg n r e = aG c n r e) || @decide (Ew A noS (aG c n r e) (dg n r e)) (Classical.propDecidable _)) = true → ((120 ≤ nI (m + (e + 1)) → Wp mX1_layTrial Q 0 0 20 [some (.ref 62), some (.int (nI r)), none, some (.int (nI m)), none, some (.int (nI (dg n r e))), some (.int (nI (ug n (e + 1 + 1)))), some (.int (nI (m + (e + 1) + 1))), none] [] u) ∧ (¬ 120 ≤ nI (m + (e + 1)) → (Mt mJ7_fill_fda19 [.ref 71, .int (nI (m + (e + 1))), .int 120, .int (nI (dg n r e))] u (ab_qv fun h14 => Sh h14 ∧ Wp mX1_layTrial Q 0 0 20 [some (.ref 62), some (.int (nI r)), none, some (.int (nI m)), none, some (.int (nI (dg n r e))), some (.int (nI (ug n (e + 1 + 1)))), some (.int (nI (m + (e + 1) + 1))), none] [] h14)))) := by
        intro y
        have o2 : okS A c n r (e + 1) = true := by
          show (okS A c n r e && _) = true
          rw [o, y]; rfl
        refine ⟨fun z => ?_, fun z => ?_⟩
        · have z2 : 120 ≤ m + (e + 1) := by
            rcases Nat.lt_or_ge (m + (e + 1)) 120 with w | w
            · exact absurd z (nI_ge (b := 120) w (by omega))
            · exact w
          have := ih (e + 1) u (by omega) s x f (fun j hj => by
            rw [t j hj]
            unfold goE
            split
            · rfl
            · rw [show min (j - m) e = min (j - m) (e + 1) by omega]) o2
          rw [ag] at this
          exact this
        · have z2 : m + (e + 1) < 120 := by
            rcases Nat.lt_or_ge (m + (e + 1)) 120 with w | w
            · exact w
            · exact absurd (nI_le (a := 120) w (by omega)) z
          refine c_fill s 71 (m + (e + 1)) 120 (nI (dg n r e)) _ 120 rfl rfl (k71 s) (by rw [n71 s]; omega) (by omega) (by rw [n71 s]; omega) ⟨rfl, sh_fl s, ?_⟩
          have := ih (e + 1) (ab_fl u 71 (m + (e + 1)) 120 (nI (dg n r e))) (by omega) (sh_fl s) (by rw [x_fl]; exact x) (fun a n1 => eqc_fl (f a n1) n1) (fun j hj => by
            rw [ah_i_fl]
            by_cases w : m + (e + 1) ≤ j
            · rw [if_pos ⟨rfl, w, hj⟩]
              unfold goE
              rw [if_neg (by omega), show min (j - m) (e + 1) = e + 1 by omega, ag, nO_s]
            · rw [if_neg (fun y => w y.2.1), t j hj]
              unfold goE
              split
              · rfl
              · rw [show min (j - m) e = min (j - m) (e + 1) by omega]) o2
          rw [ag] at this
          exact this
      rw [nI_eq (show dg n r e < 2 ^ 31 by omega) (show aG c n r e < 2 ^ 31 by omega)]
      refine ⟨fun y => nx (by rw [decide_eq_true y]; rfl), fun y => ?_⟩
      rw [sh_n s 30 12 (by decide) (by decide) rfl, nI_clamp (show aG c n r e < 2 ^ 31 by omega), b_bit _ _ (by omega), (f 30 (by decide)).1]
      have nbe := nb (aG c n r e) al (dg n r e) (by omega)
      refine ⟨(vp_nI (by omega)).mpr al, fun z => nx ?_, fun z => ?_⟩
      · have : Ew A noS (aG c n r e) (dg n r e) := nbe.mp (by cases w : bt (ah_i h 30 (aG c n r e)) (dg n r e); exact absurd w z; rfl)
        rw [@decide_eq_true _ (Classical.propDecidable _) this, Bool.or_true]
      · have ne : ¬ Ew A noS (aG c n r e) (dg n r e) := fun w => by rw [nbe.mpr w] at z; exact absurd z (by decide)
        have bad : ∀ q, okS A c n r (e + 1 + q) = false := by
          intro q
          induction q with
          | zero =>
            show (okS A c n r e && _) = false
            rw [decide_eq_false y, @decide_eq_false _ (Classical.propDecidable _) ne]
            cases okS A c n r e <;> rfl
          | succ q ih3 =>
            show (okS A c n r (e + 1 + q) && _) = false
            rw [ih3]; rfl
        have bn := bad (n - (e + 1))
        rw [show e + 1 + (n - (e + 1)) = n by omega] at bn
        have fin := hq u s x f (fun w => by rw [bn] at w; exact absurd w (by decide))
        rw [bn] at fin
        exact fin
  -- the first
  refine T_X1_layTrial_20 (sh_fl hs) _ _ _ _ _ ?_
  rw [show (12 : Int32) = nI 12 from rfl, nI_add, nI_1]
  (first | refine ⟨fun _ => ?_, fun n_ => absurd (show ¬ nI (m + 12) ≤ nI m from nI_ge (by omega) (by omega)) n_⟩ | refine ⟨fun n_ => absurd (show ¬ nI (m + 12) ≤ nI m from nI_ge (by omega) (by omega)) n_, fun _ => ?_⟩ | refine ⟨fun y_ => absurd y_ (show ¬ nI (m + 12) ≤ nI m from nI_ge (by omega) (by omega)), fun _ => ?_⟩ | refine ⟨fun _ => ?_, fun y_ => absurd y_ (show ¬ nI (m + 12) ≤ nI m from nI_ge (by omega) (by omega))⟩)
  (first | refine ⟨fun _ => ?_, fun n_ => absurd (show ¬ nI (pw n) ≤ 0 from nI_ge (a := 0) (by omega) (by omega)) n_⟩ | refine ⟨fun n_ => absurd (show ¬ nI (pw n) ≤ 0 from nI_ge (a := 0) (by omega) (by omega)) n_, fun _ => ?_⟩ | refine ⟨fun y_ => absurd y_ (show ¬ nI (pw n) ≤ 0 from nI_ge (a := 0) (by omega) (by omega)), fun _ => ?_⟩ | refine ⟨fun _ => ?_, fun y_ => absurd y_ (show ¬ nI (pw n) ≤ 0 from nI_ge (a := 0) (by omega) (by omega))⟩)
  (first | refine ⟨fun _ => ?_, fun n_ => absurd (show nI m ≤ nI m from nI_le (Nat.le_refl _) (by omega)) n_⟩ | refine ⟨fun n_ => absurd (show nI m ≤ nI m from nI_le (Nat.le_refl _) (by omega)) n_, fun _ => ?_⟩ | refine ⟨fun y_ => absurd y_ (show nI m ≤ nI m from nI_le (Nat.le_refl _) (by omega)), fun _ => ?_⟩ | refine ⟨fun _ => ?_, fun y_ => absurd y_ (show nI m ≤ nI m from nI_le (Nat.le_refl _) (by omega))⟩)
  (first | refine ⟨fun _ => ?_, fun n_ => absurd (show ¬ 120 ≤ nI m from nI_ge (b := 120) hm (by omega)) n_⟩ | refine ⟨fun n_ => absurd (show ¬ 120 ≤ nI m from nI_ge (b := 120) hm (by omega)) n_, fun _ => ?_⟩ | refine ⟨fun y_ => absurd y_ (show ¬ 120 ≤ nI m from nI_ge (b := 120) hm (by omega)), fun _ => ?_⟩ | refine ⟨fun _ => ?_, fun y_ => absurd y_ (show ¬ 120 ≤ nI m from nI_ge (b := 120) hm (by omega))⟩)
  rw [nI_divI (by omega) (by omega), show pw n = ug n 0 by unfold ug; rw [if_pos (by omega)]; rfl, ug_s]
  have s1 : Sh (ab_fl h 71 0 m (-1)) := sh_fl hs
  refine c_fill s1 71 m 120 (nI c) _ 120 rfl rfl (k71 s1) (by rw [n71 s1]; omega) (by omega) (by rw [n71 s1]; omega) ⟨rfl, sh_fl s1, ?_⟩
  refine st n 0 _ (by omega) (sh_fl s1) (by rw [x_fl, x_fl]) (fun a n1 => eqc_fl (eqc_fl eqc_rfl n1) n1) (fun j hj => ?_) rfl
  rw [ah_i_fl]
  unfold goE
  by_cases w : m ≤ j
  · rw [if_pos ⟨rfl, w, hj⟩, if_neg (by omega), show min (j - m) 0 = 0 by omega, nO_s]; rfl
  · rw [if_neg (fun y => w y.2.1), if_pos (by omega), ah_i_fl, if_pos ⟨rfl, by omega, by omega⟩]; rfl
end WR
