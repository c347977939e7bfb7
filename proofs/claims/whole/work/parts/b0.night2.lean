/-! ===== night, judge on both sides ===== -/
section NJ
variable {KX : ah_T → Prop} {RX WX SX : (Nat → Nat) → ah_T → Prop} {A A' : Nat → Nat} {h h' h2 g : ah_T} {g0 n : Nat}
noncomputable def nightV (A : Nat → Nat) (fl : Nat → Bool) (w : Nat) : Int32 := if w = 0 then nI (ct (fun m k => litM A (nd0 A) m k && fl k) (A 246) 120) else if w = 1 then nI (ct (fun m k => outM A (nd0 A) m k && fl k) (A 246) 120) else nO (fstM (fun m k => outM A (nd0 A) m k && fl k) (A 246) 120)
theorem sk_all (f : Nat → Nat → Bool) (n : Nat) : ct (fun m k => f m k && true) n 120 = sk f 120 n := by
  rw [← ct_sk]
  exact ct_ext (fun m _ k _ => Bool.and_true _)
theorem rel_night (X : XP KX RX WX) (hW : hWp KX RX) (hS : SXp SX) (a b : Int32) : lw_RC (Inv TXm (CCg KX RX WX) (CMg SX) (n + 1)) (Inv TXm (CCg KX RX WX) (CMg SX) n) mX11_night mX12_night [.int a, .int b] := by
  intro h hI
  obtain ⟨hs, A, p⟩ := pre_of hI
  have p' := p
  obtain ⟨⟨B0, B1, d, D, wf, tn, _⟩, cc, cm⟩ := p'
  have tw := cTw_of wf tn
  have h10 := wf.2.1.1
  have m246 := (mQs_p p).2.2.1.2.2.1
  have no : ((¬ a = -1 ∧ f_X12_isLamp h a = 0) ∨ f_X11_isIn b 3 = 0) → Mt mX12_night [.ref 82, .int a, .int b] h (ab_qi fun w h2 => -1 = w ∧ Inv TXm (CCg KX RX WX) (CMg SX) n h2) := by
    intro o
    refine T_X12_night hs _ _ ?_
    simp only [q_three]
    have done : (ab_qi fun w h2 => -1 = w ∧ Inv TXm (CCg KX RX WX) (CMg SX) n h2) (some (.int (-1))) h := ⟨_, rfl, rfl, inv_less hs p⟩
    by_cases z0 : a = -1
    · (first | refine ⟨fun _ => ?_, fun n_ => absurd (z0) n_⟩ | refine ⟨fun n_ => absurd (z0) n_, fun _ => ?_⟩ | refine ⟨fun y_ => absurd y_ (z0), fun _ => ?_⟩ | refine ⟨fun _ => ?_, fun y_ => absurd y_ (z0)⟩)
      have z3 : f_X11_isIn b 3 = 0 := o.resolve_left (fun y => y.1 z0)
      (first | refine ⟨fun _ => ?_, fun n_ => absurd (z3) n_⟩ | refine ⟨fun n_ => absurd (z3) n_, fun _ => ?_⟩ | refine ⟨fun y_ => absurd y_ (z3), fun _ => ?_⟩ | refine ⟨fun _ => ?_, fun y_ => absurd y_ (z3)⟩)
      exact done
    · (first | refine ⟨fun _ => ?_, fun n_ => absurd (z0) n_⟩ | refine ⟨fun n_ => absurd (z0) n_, fun _ => ?_⟩ | refine ⟨fun y_ => absurd y_ (z0), fun _ => ?_⟩ | refine ⟨fun _ => ?_, fun y_ => absurd y_ (z0)⟩)
      by_cases z1 : f_X12_isLamp h a = 0
      · (first | refine ⟨fun _ => ?_, fun n_ => absurd (z1) n_⟩ | refine ⟨fun n_ => absurd (z1) n_, fun _ => ?_⟩ | refine ⟨fun y_ => absurd y_ (z1), fun _ => ?_⟩ | refine ⟨fun _ => ?_, fun y_ => absurd y_ (z1)⟩)
        exact done
      (first | refine ⟨fun _ => ?_, fun n_ => absurd (z1) n_⟩ | refine ⟨fun n_ => absurd (z1) n_, fun _ => ?_⟩ | refine ⟨fun y_ => absurd y_ (z1), fun _ => ?_⟩ | refine ⟨fun _ => ?_, fun y_ => absurd y_ (z1)⟩)
      have z3 : f_X11_isIn b 3 = 0 := o.resolve_left (fun y => z1 y.2)
      (first | refine ⟨fun _ => ?_, fun n_ => absurd (z3) n_⟩ | refine ⟨fun n_ => absurd (z3) n_, fun _ => ?_⟩ | refine ⟨fun y_ => absurd y_ (z3), fun _ => ?_⟩ | refine ⟨fun _ => ?_, fun y_ => absurd y_ (z3)⟩)
      exact done
  -- the model's
  have mod : ∀ (h6 : ah_T) (w : Nat) (fl : Nat → Bool) (v : Int32), Sh h6 → preQ KX RX WX SX n A h6 → w < 3 → ((a = -1 ∧ ∀ k, k < A 246 → fl k = true) ∨ (¬ a = -1 ∧ (∃ l, l < A 246 ∧ a = nI l) ∧ ∀ k, k < A 246 → (nI k = a ↔ fl k = true))) → v = nightV A fl w → Mt mX12_night [.ref 82, .int a, .int (nI w)] h6 (ab_qi fun w h2 => v = w ∧ Inv TXm (CCg KX RX WX) (CMg SX) n h2) := by
    intro h6 w fl v s6 p6 hw hf ev
    subst ev
    have c3 : ¬ f_X11_isIn (nI w) 3 = 0 := q_is0 (n := 3) (by decide) hw
    refine T_X12_night s6 _ _ ?_
    simp only [q_three]
    rcases hf with ⟨ha, hf⟩ | ⟨ha, ⟨l, hl, el⟩, hf⟩
    · (first | refine ⟨fun _ => ?_, fun n_ => absurd (ha) n_⟩ | refine ⟨fun n_ => absurd (ha) n_, fun _ => ?_⟩ | refine ⟨fun y_ => absurd y_ (ha), fun _ => ?_⟩ | refine ⟨fun _ => ?_, fun y_ => absurd y_ (ha)⟩)
      (first | refine ⟨fun _ => ?_, fun n_ => absurd (c3) n_⟩ | refine ⟨fun n_ => absurd (c3) n_, fun _ => ?_⟩ | refine ⟨fun y_ => absurd y_ (c3), fun _ => ?_⟩ | refine ⟨fun _ => ?_, fun y_ => absurd y_ (c3)⟩)
      refine md_night s6 X hW hS p6 (fun h8 s8 f8 b8 nt fin => ?_)
      exact m_nightL s8 h10 b8.2.2.1.2.1 nt hw (.inl ⟨ha, hf⟩) ⟨_, rfl, rfl, fin h8 (knF_r s8) b8⟩
    · (first | refine ⟨fun _ => ?_, fun n_ => absurd (ha) n_⟩ | refine ⟨fun n_ => absurd (ha) n_, fun _ => ?_⟩ | refine ⟨fun y_ => absurd y_ (ha), fun _ => ?_⟩ | refine ⟨fun _ => ?_, fun y_ => absurd y_ (ha)⟩)
      (first | refine ⟨fun _ => ?_, fun n_ => absurd (show ¬ f_X12_isLamp h6 a = 0 by rw [el]; exact isLamp_t (mQs_p p6).2.2.1.2.2.1 h10 hl) n_⟩ | refine ⟨fun n_ => absurd (show ¬ f_X12_isLamp h6 a = 0 by rw [el]; exact isLamp_t (mQs_p p6).2.2.1.2.2.1 h10 hl) n_, fun _ => ?_⟩ | refine ⟨fun y_ => absurd y_ (show ¬ f_X12_isLamp h6 a = 0 by rw [el]; exact isLamp_t (mQs_p p6).2.2.1.2.2.1 h10 hl), fun _ => ?_⟩ | refine ⟨fun _ => ?_, fun y_ => absurd y_ (show ¬ f_X12_isLamp h6 a = 0 by rw [el]; exact isLamp_t (mQs_p p6).2.2.1.2.2.1 h10 hl)⟩)
      (first | refine ⟨fun _ => ?_, fun n_ => absurd (c3) n_⟩ | refine ⟨fun n_ => absurd (c3) n_, fun _ => ?_⟩ | refine ⟨fun y_ => absurd y_ (c3), fun _ => ?_⟩ | refine ⟨fun _ => ?_, fun y_ => absurd y_ (c3)⟩)
      refine md_night s6 X hW hS p6 (fun h8 s8 f8 b8 nt fin => ?_)
      exact m_nightL s8 h10 b8.2.2.1.2.1 nt hw (.inr ⟨ha, hf⟩) ⟨_, rfl, rfl, fin h8 (knF_r s8) b8⟩
  refine T_X11_night hs a b ?_
  by_cases ha : a = -1
  · (first | refine ⟨fun _ => ?_, fun n_ => absurd (ha) n_⟩ | refine ⟨fun n_ => absurd (ha) n_, fun _ => ?_⟩ | refine ⟨fun y_ => absurd y_ (ha), fun _ => ?_⟩ | refine ⟨fun _ => ?_, fun y_ => absurd y_ (ha)⟩)
    by_cases c3 : f_X11_isIn b 3 = 0
    · (first | refine ⟨fun _ => ?_, fun n_ => absurd (c3) n_⟩ | refine ⟨fun n_ => absurd (c3) n_, fun _ => ?_⟩ | refine ⟨fun y_ => absurd y_ (c3), fun _ => ?_⟩ | refine ⟨fun _ => ?_, fun y_ => absurd y_ (c3)⟩)
      exact ⟨_, rfl, hs, no (.inr c3)⟩
    (first | refine ⟨fun _ => ?_, fun n_ => absurd (c3) n_⟩ | refine ⟨fun n_ => absurd (c3) n_, fun _ => ?_⟩ | refine ⟨fun y_ => absurd y_ (c3), fun _ => ?_⟩ | refine ⟨fun _ => ?_, fun y_ => absurd y_ (c3)⟩)
    obtain ⟨w, hw, rfl⟩ := q_isn (n := 3) (by decide) c3
    refine lr hs X hS p (fun h6 g' s6 p6 lk6 i9 r6 l6 pq => ?_)
    have fin : ∀ v, v = nightV A (fun _ => true) w → (ab_qi fun v h1 => Sh h1 ∧ Mt mX12_night (.ref 82 :: [.int a, .int (nI w)]) h1 (ab_qi fun w h2 => v = w ∧ Inv TXm (CCg KX RX WX) (CMg SX) n h2)) (some (.int v)) h6 := fun v ev => ⟨_, rfl, s6, mod h6 w (fun _ => true) v s6 p6 hw (.inl ⟨ha, fun _ _ => rfl⟩) ev⟩
    have e43 : ah_i h6 4 3 = nI (A 246) := lk6.1.1.1.2.1
    (first | refine ⟨fun _ => ?_, fun n_ => absurd (ha) n_⟩ | refine ⟨fun n_ => absurd (ha) n_, fun _ => ?_⟩ | refine ⟨fun y_ => absurd y_ (ha), fun _ => ?_⟩ | refine ⟨fun _ => ?_, fun y_ => absurd y_ (ha)⟩)
    (first | refine ⟨fun _ => ?_, fun n_ => absurd (ha) n_⟩ | refine ⟨fun n_ => absurd (ha) n_, fun _ => ?_⟩ | refine ⟨fun y_ => absurd y_ (ha), fun _ => ?_⟩ | refine ⟨fun _ => ?_, fun y_ => absurd y_ (ha)⟩)
    rw [e43, nO_pred]
    rcases (show w = 0 ∨ w = 1 ∨ w = 2 by omega) with rfl | rfl | rfl
    · (first | refine ⟨fun _ => ?_, fun n_ => absurd (show ¬ nI 0 = 2 by decide) n_⟩ | refine ⟨fun n_ => absurd (show ¬ nI 0 = 2 by decide) n_, fun _ => ?_⟩ | refine ⟨fun y_ => absurd y_ (show ¬ nI 0 = 2 by decide), fun _ => ?_⟩ | refine ⟨fun _ => ?_, fun y_ => absurd y_ (show ¬ nI 0 = 2 by decide)⟩)
      refine c_sum s6 r6 h10 (w := 0) (.inl rfl) rfl (Nat.le_refl _) (A 246) 0 0 (by omega) (by omega) (fun v ev => fin _ ?_) (by rw [if_pos rfl, if_pos rfl]; exact Nat.zero_le _)
      rw [if_pos rfl, if_pos rfl] at ev
      unfold nightV
      rw [if_pos rfl, sk_all, ev]
      rfl
    · (first | refine ⟨fun _ => ?_, fun n_ => absurd (show ¬ nI 1 = 2 by decide) n_⟩ | refine ⟨fun n_ => absurd (show ¬ nI 1 = 2 by decide) n_, fun _ => ?_⟩ | refine ⟨fun y_ => absurd y_ (show ¬ nI 1 = 2 by decide), fun _ => ?_⟩ | refine ⟨fun _ => ?_, fun y_ => absurd y_ (show ¬ nI 1 = 2 by decide)⟩)
      refine c_sum s6 r6 h10 (w := 1) (.inr rfl) rfl (Nat.le_refl _) (A 246) 0 0 (by omega) (by omega) (fun v ev => fin _ ?_) (by rw [if_neg (by decide), if_neg (by decide)]; exact Nat.zero_le _)
      rw [if_neg (by decide), if_neg (by decide)] at ev
      unfold nightV
      rw [if_neg (by decide), if_pos rfl, sk_all, ev]
      rfl
    · (first | refine ⟨fun _ => ?_, fun n_ => absurd (show nI 2 = 2 from rfl) n_⟩ | refine ⟨fun n_ => absurd (show nI 2 = 2 from rfl) n_, fun _ => ?_⟩ | refine ⟨fun y_ => absurd y_ (show nI 2 = 2 from rfl), fun _ => ?_⟩ | refine ⟨fun _ => ?_, fun y_ => absurd y_ (show nI 2 = 2 from rfl)⟩)
      (first | refine ⟨fun _ => ?_, fun n_ => absurd (ha) n_⟩ | refine ⟨fun n_ => absurd (ha) n_, fun _ => ?_⟩ | refine ⟨fun y_ => absurd y_ (ha), fun _ => ?_⟩ | refine ⟨fun _ => ?_, fun y_ => absurd y_ (ha)⟩)
      refine c_firstOut s6 r6 h10 (fl := fun _ => true) (fun k hk => (by decide +kernel : ∀ k, k < 10 → bt 1023 k = true) k (by omega)) ⟨_, rfl, s6, fin _ ?_⟩
      unfold nightV
      rw [if_neg (by decide), if_neg (by decide)]
  · (first | refine ⟨fun _ => ?_, fun n_ => absurd (ha) n_⟩ | refine ⟨fun n_ => absurd (ha) n_, fun _ => ?_⟩ | refine ⟨fun y_ => absurd y_ (ha), fun _ => ?_⟩ | refine ⟨fun _ => ?_, fun y_ => absurd y_ (ha)⟩)
    refine c_has3 hs (by omega) tw.1.2.1 (by omega) (fun l hl el => ⟨_, rfl, hs, ?_⟩) (fun c0 => ⟨_, rfl, hs, ?_⟩)
    rotate_left
    · (first | refine ⟨fun _ => ?_, fun n_ => absurd (show (0 : Int32) = 0 from rfl) n_⟩ | refine ⟨fun n_ => absurd (show (0 : Int32) = 0 from rfl) n_, fun _ => ?_⟩ | refine ⟨fun y_ => absurd y_ (show (0 : Int32) = 0 from rfl), fun _ => ?_⟩ | refine ⟨fun _ => ?_, fun y_ => absurd y_ (show (0 : Int32) = 0 from rfl)⟩)
      exact ⟨_, rfl, hs, no (.inl ⟨ha, isLamp_f m246 h10 c0⟩)⟩
    subst el
    (first | refine ⟨fun _ => ?_, fun n_ => absurd (show ¬ (1 : Int32) = 0 by decide) n_⟩ | refine ⟨fun n_ => absurd (show ¬ (1 : Int32) = 0 by decide) n_, fun _ => ?_⟩ | refine ⟨fun y_ => absurd y_ (show ¬ (1 : Int32) = 0 by decide), fun _ => ?_⟩ | refine ⟨fun _ => ?_, fun y_ => absurd y_ (show ¬ (1 : Int32) = 0 by decide)⟩)
    by_cases c3 : f_X11_isIn b 3 = 0
    · (first | refine ⟨fun _ => ?_, fun n_ => absurd (c3) n_⟩ | refine ⟨fun n_ => absurd (c3) n_, fun _ => ?_⟩ | refine ⟨fun y_ => absurd y_ (c3), fun _ => ?_⟩ | refine ⟨fun _ => ?_, fun y_ => absurd y_ (c3)⟩)
      exact ⟨_, rfl, hs, no (.inr c3)⟩
    (first | refine ⟨fun _ => ?_, fun n_ => absurd (c3) n_⟩ | refine ⟨fun n_ => absurd (c3) n_, fun _ => ?_⟩ | refine ⟨fun y_ => absurd y_ (c3), fun _ => ?_⟩ | refine ⟨fun _ => ?_, fun y_ => absurd y_ (c3)⟩)
    obtain ⟨w, hw, rfl⟩ := q_isn (n := 3) (by decide) c3
    refine lr hs X hS p (fun h6 g' s6 p6 lk6 i9 r6 l6 pq => ?_)
    have fin : ∀ v, v = nightV A (fun k => decide (k = l)) w → (ab_qi fun v h1 => Sh h1 ∧ Mt mX12_night (.ref 82 :: [.int (nI l), .int (nI w)]) h1 (ab_qi fun w h2 => v = w ∧ Inv TXm (CCg KX RX WX) (CMg SX) n h2)) (some (.int v)) h6 := fun v ev => ⟨_, rfl, s6, mod h6 w (fun k => decide (k = l)) v s6 p6 hw (.inr ⟨ha, ⟨l, hl, rfl⟩, fun k hk => by rw [nI_eq (by omega) (by omega), decide_eq_true_eq]⟩) ev⟩
    (first | refine ⟨fun _ => ?_, fun n_ => absurd (ha) n_⟩ | refine ⟨fun n_ => absurd (ha) n_, fun _ => ?_⟩ | refine ⟨fun y_ => absurd y_ (ha), fun _ => ?_⟩ | refine ⟨fun _ => ?_, fun y_ => absurd y_ (ha)⟩)
    (first | refine ⟨fun _ => ?_, fun n_ => absurd (ha) n_⟩ | refine ⟨fun n_ => absurd (ha) n_, fun _ => ?_⟩ | refine ⟨fun y_ => absurd y_ (ha), fun _ => ?_⟩ | refine ⟨fun _ => ?_, fun y_ => absurd y_ (ha)⟩)
    rcases (show w = 0 ∨ w = 1 ∨ w = 2 by omega) with rfl | rfl | rfl
    · (first | refine ⟨fun _ => ?_, fun n_ => absurd (show ¬ nI 0 = 2 by decide) n_⟩ | refine ⟨fun n_ => absurd (show ¬ nI 0 = 2 by decide) n_, fun _ => ?_⟩ | refine ⟨fun y_ => absurd y_ (show ¬ nI 0 = 2 by decide), fun _ => ?_⟩ | refine ⟨fun _ => ?_, fun y_ => absurd y_ (show ¬ nI 0 = 2 by decide)⟩)
      have sN : sk (litM A (nd0 A)) 120 (l + 1) = sk (litM A (nd0 A)) 120 l + cb (fun m => litM A (nd0 A) m l) 120 := rfl
      refine c_sum s6 r6 h10 (w := 0) (hi := l + 1) (.inl rfl) (nO_s l).symm (by omega) 1 l 0 (by omega) (by omega) (fun v ev => fin _ ?_) (by rw [if_pos rfl, if_pos rfl]; omega)
      rw [if_pos rfl, if_pos rfl] at ev
      unfold nightV
      rw [if_pos rfl, ct_one _ hl, ev]
      congr 1
      omega
    · (first | refine ⟨fun _ => ?_, fun n_ => absurd (show ¬ nI 1 = 2 by decide) n_⟩ | refine ⟨fun n_ => absurd (show ¬ nI 1 = 2 by decide) n_, fun _ => ?_⟩ | refine ⟨fun y_ => absurd y_ (show ¬ nI 1 = 2 by decide), fun _ => ?_⟩ | refine ⟨fun _ => ?_, fun y_ => absurd y_ (show ¬ nI 1 = 2 by decide)⟩)
      have sN : sk (outM A (nd0 A)) 120 (l + 1) = sk (outM A (nd0 A)) 120 l + cb (fun m => outM A (nd0 A) m l) 120 := rfl
      refine c_sum s6 r6 h10 (w := 1) (hi := l + 1) (.inr rfl) (nO_s l).symm (by omega) 1 l 0 (by omega) (by omega) (fun v ev => fin _ ?_) (by rw [if_neg (by decide), if_neg (by decide)]; omega)
      rw [if_neg (by decide), if_neg (by decide)] at ev
      unfold nightV
      rw [if_neg (by decide), if_pos rfl, ct_one _ hl, ev]
      congr 1
      omega
    · (first | refine ⟨fun _ => ?_, fun n_ => absurd (show nI 2 = 2 from rfl) n_⟩ | refine ⟨fun n_ => absurd (show nI 2 = 2 from rfl) n_, fun _ => ?_⟩ | refine ⟨fun y_ => absurd y_ (show nI 2 = 2 from rfl), fun _ => ?_⟩ | refine ⟨fun _ => ?_, fun y_ => absurd y_ (show nI 2 = 2 from rfl)⟩)
      (first | refine ⟨fun _ => ?_, fun n_ => absurd (ha) n_⟩ | refine ⟨fun n_ => absurd (ha) n_, fun _ => ?_⟩ | refine ⟨fun y_ => absurd y_ (ha), fun _ => ?_⟩ | refine ⟨fun _ => ?_, fun y_ => absurd y_ (ha)⟩)
      refine c_firstOut s6 r6 h10 (fl := fun k => decide (k = l)) (fun k hk => b_1sh (by omega) (by omega)) ⟨_, rfl, s6, fin _ ?_⟩
      unfold nightV
      rw [if_neg (by decide), if_neg (by decide)]
/-! ## judge -/
/-- an errand is dark -/
noncomputable def dkB (A : Nat → Nat) (m e : Nat) : Bool := decide (A (201 + 3 * e) ≤ m ∧ m ≤ A (202 + 3 * e)) && !brP A (nd0 A) (litM A (nd0 A) m) m (A (200 + 3 * e))
abbrev J3 := Int32 × Int32 × Int32
def jU (d : Bool) (m e : Nat) (s : J3) : J3 := if d = true then (if s.1 = -1 then nI e else s.1, if s.1 = -1 then nI m else s.2.1, s.2.2 ||| ((1 : Int32) <<< (nI e &&& 31))) else s
noncomputable def jE (A : Nat → Nat) (m : Nat) : Nat → J3 → J3
  | 0, s => s
  | e + 1, s => jU (dkB A m e) m e (jE A m e s)
noncomputable def jM (A : Nat → Nat) : Nat → J3
  | 0 => (-1, -1, 0)
  | m + 1 => jE A m (A 249) (jM A m)
theorem jE_b {P : Nat → Prop} (hP : ∀ e, e < A 249 → P e) {m : Nat} {s : J3} (hs : ∀ i, i < 32 → bt s.2.2 i = true → P i) (h6 : A 249 ≤ 6) : ∀ e, e ≤ A 249 → ∀ i, i < 32 → bt (jE A m e s).2.2 i = true → P i
  | 0, _, i, hi, y => hs i hi y
  | e + 1, he, i, hi, y => by
    have ih := jE_b (m := m) hP hs h6 e (by omega) i hi
    have e0 : jE A m (e + 1) s = jU (dkB A m e) m e (jE A m e s) := rfl
    rw [e0] at y
    unfold jU at y
    by_cases z : dkB A m e = true
    · rw [if_pos z] at y
      have y' : bt ((jE A m e s).2.2 ||| ((1 : Int32) <<< (nI e &&& 31))) i = true := y
      rw [b_or, Bool.or_eq_true, b_1sh (by omega) hi, decide_eq_true_eq] at y'
      rcases y' with u | u
      · exact ih u
      · subst u; exact hP i (by omega)
    · rw [if_neg z] at y; exact ih y
theorem jM_b (h6 : A 249 ≤ 6) : ∀ m i, i < 32 → bt (jM A m).2.2 i = true → i < 6
  | 0, i, _, y => by
    have y' : bt 0 i = true := y
    rw [b_0] at y'; exact absurd y' (by decide)
  | m + 1, i, hi, y => jE_b (P := fun i => i < 6) (fun e he => by omega) (fun i hi z => jM_b h6 m i hi z) h6 (A 249) (Nat.le_refl _) i hi y
theorem small_b {x : Int32} {w : Nat} (h : ∀ i, i < 32 → bt x i = true → i < w) : ∃ j, j < 2 ^ w ∧ x = nI j := by
  refine ⟨x.toBitVec.toNat, Nat.lt_pow_two_of_testBit _ (fun i hi => ?_), ?_⟩
  · have e : x.toBitVec.toNat.testBit i = bt x i := rfl
    rw [e]
    rcases Nat.lt_or_ge i 32 with z | z
    · cases y : bt x i
      · rfl
      · have := h i z y; omega
    · exact b_big z
  · apply Int32.toBitVec_inj.mp
    show x.toBitVec = BitVec.ofNat 32 x.toBitVec.toNat
    rw [BitVec.ofNat_toNat, BitVec.setWidth_eq]
theorem m_ones {Q : Option Value → ah_T → Prop} (hs : Sh h) (x : Int32) (hq : Q (some (.int (nI (cb (bt x) 20)))) h) : Mt mX12_ones [.int x] h Q := by
  have lp : ∀ (q k : Nat), k + q = 20 → Wp mX12_ones Q 0 0 4 [some (.int x), some (.int (nI (cb (bt x) k))), some (.int (nI k))] [] h := by
    intro q
    induction q with
    | zero =>
      intro k hk
      have e9 : k = 20 := by omega
      subst e9
      refine T_X12_ones_4 hs _ _ _ ?_
      (first | refine ⟨fun _ => ?_, fun n_ => absurd (show 20 ≤ nI 20 from nI_le (a := 20) (by omega) (by omega)) n_⟩ | refine ⟨fun n_ => absurd (show 20 ≤ nI 20 from nI_le (a := 20) (by omega) (by omega)) n_, fun _ => ?_⟩ | refine ⟨fun y_ => absurd y_ (show 20 ≤ nI 20 from nI_le (a := 20) (by omega) (by omega)), fun _ => ?_⟩ | refine ⟨fun _ => ?_, fun y_ => absurd y_ (show 20 ≤ nI 20 from nI_le (a := 20) (by omega) (by omega))⟩)
      exact hq
    | succ q ih =>
      intro k hk
      refine T_X12_ones_4 hs _ _ _ ?_
      (first | refine ⟨fun _ => ?_, fun n_ => absurd (show ¬ 20 ≤ nI k from nI_ge (b := 20) (by omega) (by omega)) n_⟩ | refine ⟨fun n_ => absurd (show ¬ 20 ≤ nI k from nI_ge (b := 20) (by omega) (by omega)) n_, fun _ => ?_⟩ | refine ⟨fun y_ => absurd y_ (show ¬ 20 ≤ nI k from nI_ge (b := 20) (by omega) (by omega)), fun _ => ?_⟩ | refine ⟨fun _ => ?_, fun y_ => absurd y_ (show ¬ 20 ≤ nI k from nI_ge (b := 20) (by omega) (by omega))⟩)
      rw [b_val _ (by omega), show nI k + 1 = nI (k + 1) from nI_1 k]
      have e : nI (cb (bt x) k) + bI (bt x k) = nI (cb (bt x) (k + 1)) := by
        show _ = nI (cb (bt x) k + (if bt x k = true then 1 else 0))
        cases bt x k
        · exact Int32.add_zero _
        · exact nI_1 _
      rw [e]
      exact ih (k + 1) (by omega)
  exact T_X12_ones hs x (lp 20 0 (by omega))
theorem bc_10 : ∀ j, j < 1024 → f_J6_bitCount_0f7a4 (nI j) = nI (cb (bt (nI j)) 20) := by decide +kernel
end NJ
