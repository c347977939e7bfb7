/-! ===== told: one place is another ===== -/
section ST
variable {TX : ah_T → Nat → (Nat → Nat) → (Nat → Nat) → Nat → Prop} {A : Nat → Nat} {h h0 h2 : ah_T} {t room many base k v c j : Nat} {x y : Int32}
theorem cp3_set (hk : k < 3 * A many) (hv : v < 256) (hb : base + 3 * room ≤ many) (pt : ∀ j, ah_i h2 t j = ah_i h t j) (pc : ∀ j, ah_i h2 (t + 1) j = if j = k then nI v else ah_i h (t + 1) j) (pm : ∀ j, ah_i h2 84 j = if j = base + k then nI v else ah_i h 84 j) (q : cp3 A h t 84 0 room many base) : cp3 (up A (base + k) v) h2 t 84 0 room many base := by
  obtain ⟨q1, q2, q3, q4, q5, q6⟩ := q
  simp only [Nat.zero_add] at q4 q6
  have em : up A (base + k) v many = A many := up_n (by omega)
  unfold cp3
  simp only [Nat.zero_add, em]
  refine ⟨by rw [pt]; exact q1, by rw [pt]; exact q2, by rw [pt]; exact q3, by rw [pm, if_neg (by omega)]; exact q4, q5, fun i hi => ?_⟩
  by_cases e : i = k
  · subst e
    rw [up_s, pc, if_pos rfl, pm, if_pos rfl]
    exact ⟨rfl, rfl, hv⟩
  · rw [up_n (by omega), pc, if_neg e, pm, if_neg (by omega)]
    exact q6 i hi
theorem cp3_cut (hm : v ≤ A many) (hb : base + 3 * room ≤ many) (pt : ∀ j, ah_i h2 t j = if j = 3 then nI v else ah_i h t j) (pc : ∀ j, ah_i h2 (t + 1) j = ah_i h (t + 1) j) (pm : ∀ j, ah_i h2 84 j = if j = many then nI v else ah_i h 84 j) (q : cp3 A h t 84 0 room many base) : cp3 (up A many v) h2 t 84 0 room many base := by
  obtain ⟨q1, q2, q3, q4, q5, q6⟩ := q
  simp only [Nat.zero_add] at q4 q6
  unfold cp3
  simp only [Nat.zero_add, up_s]
  refine ⟨by rw [pt, if_neg (by decide)]; exact q1, by rw [pt, if_neg (by decide)]; exact q2, by rw [pt, if_pos rfl], by rw [pm, if_pos rfl], by omega, fun i hi => ?_⟩
  rw [up_n (by omega), pc, pm, if_neg (by omega)]
  exact q6 i (by omega)
theorem cpL_cut (pt : ∀ j, ah_i h2 8 j = if j = 3 then nI 0 else ah_i h 8 j) (pm : ∀ j, ah_i h2 84 j = if j = 248 then nI 0 else ah_i h 84 j) (q : cpL A h 8 84 0) : cpL (up A 248 0) h2 8 84 0 := by
  obtain ⟨q1, q2, q3, q4, q5⟩ := q
  unfold cpL
  rw [up_s]
  exact ⟨by rw [pt, if_neg (by decide)]; exact q1, by rw [pt, if_neg (by decide)]; exact q2, by rw [pt, if_pos rfl], by rw [pm, if_pos rfl], fun l hl => by omega⟩
/-- one place of the town and one of the model's row are another -/
abbrev fS (h0 : ah_T) (c k : Nat) (x : Int32) (j : Nat) (y : Int32) : ah_T := god (ah_si (chg (ah_si h0 c k x)) 84 j y)
theorem eq0 (e : h0 = h ∨ h0 = ah_si h 0 18 1) {a : Nat} (ha : a ≠ 0) : eqc h h0 a := by
  rcases e with rfl | rfl
  · exact eqc_rfl
  · exact eqc_si eqc_rfl ha
theorem x0 (e : h0 = h ∨ h0 = ah_si h 0 18 1) : ah_x h0 = ah_x h := by rcases e with rfl | rfl <;> rfl
theorem sh0 (e : h0 = h ∨ h0 = ah_si h 0 18 1) (hs : Sh h) : Sh h0 := by
  rcases e with rfl | rfl
  · exact hs
  · exact sh_si hs
theorem i0 (e : h0 = h ∨ h0 = ah_si h 0 18 1) {j : Nat} (hj : j ≠ 18) : ah_i h0 0 j = ah_i h 0 j := by
  rcases e with rfl | rfl
  · rfl
  · exact ah_i_sn (by omega)
theorem fS_eq (e : h0 = h ∨ h0 = ah_si h 0 18 1) {a : Nat} (n0 : a ≠ 0) (n1 : a ≠ c) (n2 : a ≠ 82) (n3 : a ≠ 84) : eqc h (fS h0 c k x j y) a := god_eq (eqc_si (chg_eq (eqc_si (eq0 e n0) n1) n0) n3) n2
theorem x_fS (e : h0 = h ∨ h0 = ah_si h 0 18 1) : ah_x (fS h0 c k x j y) = ah_x h := by rw [x_god, ah_x_si, x_chg, ah_x_si, x0 e]
theorem sh_fS (e : h0 = h ∨ h0 = ah_si h 0 18 1) (hs : Sh h) : Sh (fS h0 c k x j y) := sh_god (sh_si (sh_chg (sh_si (sh0 e hs))))
theorem fS_84 (e : h0 = h ∨ h0 = ah_si h 0 18 1) (hc : c ≤ 15) (i : Nat) : ah_i (fS h0 c k x j y) 84 i = if i = j then y else ah_i h 84 i := by
  rw [god_i (by decide), ah_i_si, chg_i (by decide), ah_i_sn (by omega), (eq0 e (by decide)).1]
  simp only [true_and]
theorem fS_c (e : h0 = h ∨ h0 = ah_si h 0 18 1) (hc0 : c ≠ 0) (hc : c ≤ 15) (i : Nat) : ah_i (fS h0 c k x j y) c i = if i = k then x else ah_i h c i := by
  rw [god_i (by omega), ah_i_sn (by omega), chg_i hc0, ah_i_si, (eq0 e hc0).1]
  simp only [true_and]
theorem tl_S (e : h0 = h ∨ h0 = ah_si h 0 18 1) (hc0 : c ≠ 0) (hc : c ≤ 15) : tl h (fS h0 c k x j y) :=
  tl_mk (by rw [ah_x_si, x0 e]) (by rw [ah_x_si]) (fun a ha => eqc_si (eq0 e (by omega)) (by omega)) (fun i hi => by rw [ah_i_sn (by omega)]; exact i0 e hi) (fun a ha => eqc_si eqc_rfl ha)
theorem fS_18 (hc0 : c ≠ 0) : ah_i (fS h0 c k x j y) 0 18 = ah_i h0 0 18 := by
  rw [god_i (by decide), ah_i_sn (by omega), chg_0, if_neg (by decide), if_neg (by decide), ah_i_sn (by omega)]
theorem ot_S (e : h0 = h ∨ h0 = ah_si h 0 18 1) (hc0 : c ≠ 0) (hc : c ≤ 15) : ot (fun a => a = c) (fun i => i = j) A (up A j v) h (fS h0 c k x j y) :=
  ⟨fun a h1 h2 h3 => fS_eq e (by omega) h3 (by omega) (by omega), fun a h1 => fS_eq e (by omega) (by omega) (by omega) (by omega), x_fS e, fun i hi hJ => ⟨by rw [fS_84 e hc, if_neg hJ], up_n hJ⟩⟩
end ST
theorem rl_rpg {J : ah_T → Prop} {h : ah_T} {x y1 y2 : Int32} (hs : Sh h) (j : Nat) (e1 : y1 = nI j) (hj : j < 5860) (e : x = ah_i h 84 j) (k : J (god (ah_si h 84 j y2))) : Mt mX12_replaces [.ref 82, .int y1, .int y2] h (ab_qi fun v h1 => Sh h1 ∧ (ab_qi fun w h2 => x = w ∧ J h2) (some (.int v)) h1) := by
  refine rl_rp hs j e1 hj e ?_
  unfold god at k
  rw [ah_i_sn (h := h) (by omega)] at k
  exact k
section RW
variable {TX : ah_T → Nat → (Nat → Nat) → (Nat → Nat) → Nat → Prop} {CC : (Nat → Nat) → ah_T → Prop} {CM : Nat → (Nat → Nat) → ah_T → Prop} {n : Nat}
theorem rel_shutter (hTX : TXp TX) (hCC : CCp CC) (hCM : CMp CM) (a b : Int32) : lw_RC (Inv TX CC CM (n + 1)) (Inv TX CC CM n) mX11_shutter mX12_shutter [.int a, .int b] := by
  intro h hI
  have hI' := hI
  obtain ⟨hs, A, B0, B1, d, D, wf, tn, im, sc, tp, dr, cc, cm⟩ := hI'
  refine T_X11_shutter hs a b ?_
  by_cases c1 : f_X11_isIn b 2 = 0
  · (first | refine ⟨fun _ => ?_, fun n_ => absurd (c1) n_⟩ | refine ⟨fun n_ => absurd (c1) n_, fun _ => ?_⟩ | refine ⟨fun y_ => absurd y_ (c1), fun _ => ?_⟩ | refine ⟨fun _ => ?_, fun y_ => absurd y_ (c1)⟩)
    (refine rl_rf hs why1 (T_X12_shutter (sh_cRf hs) a b ?_); try simp only [q_corner, q_kind, q_minute, q_two, q_three, q_ten, qf0, qf1, qf2]; (first | refine ⟨fun _ => ?_, fun n_ => absurd (c1) n_⟩ | refine ⟨fun n_ => absurd (c1) n_, fun _ => ?_⟩ | refine ⟨fun y_ => absurd y_ (c1), fun _ => ?_⟩ | refine ⟨fun _ => ?_, fun y_ => absurd y_ (c1)⟩); exact rl_mf hTX hCC hCM hI why1)
  (first | refine ⟨fun _ => ?_, fun n_ => absurd (c1) n_⟩ | refine ⟨fun n_ => absurd (c1) n_, fun _ => ?_⟩ | refine ⟨fun y_ => absurd y_ (c1), fun _ => ?_⟩ | refine ⟨fun _ => ?_, fun y_ => absurd y_ (c1)⟩)
  obtain ⟨b, hb, rfl⟩ := q_isn (n := 2) (by decide) c1
  obtain ⟨p0, p1, p3, p4, p5⟩ := cp3_m tn.1
  have isl : ∀ h', (∀ j, ah_i h' 84 j = ah_i h 84 j) → f_X12_isWay h' a = if 0 ≤ a ∧ a < nI (A 245) then 1 else 0 := fun h' e => by unfold f_X12_isWay; rw [cl_245, e, p4, q_has (by omega)]
  refine c_has3 hs (.inl rfl) p3 (by omega) (fun w hw ew => ?_) (fun c3 => ?_)
  · refine ⟨_, rfl, hs, ?_⟩
    (first | refine ⟨fun _ => ?_, fun n_ => absurd (show ¬ (1 : Int32) = 0 by decide) n_⟩ | refine ⟨fun n_ => absurd (show ¬ (1 : Int32) = 0 by decide) n_, fun _ => ?_⟩ | refine ⟨fun y_ => absurd y_ (show ¬ (1 : Int32) = 0 by decide), fun _ => ?_⟩ | refine ⟨fun _ => ?_, fun y_ => absurd y_ (show ¬ (1 : Int32) = 0 by decide)⟩)
    rintro h6 rfl
    obtain ⟨k1, k2, k3, k4⟩ := tk hs 2 (.inl rfl)
    have hin : 0 ≤ a ∧ a < nI (A 245) := by subst ew; grind
    subst ew
    have q6 := tn.1.2.2.2.2.2 (w * 3 + 2) (by omega)
    simp only [Nat.zero_add] at q6
    refine c_swap (sh_si hs) 2 3 _ _ _ w 2 rfl rfl k1 k2 k3 (n := A 245) (w := 3) p1 p3 (by rw [show ah_n (ah_si h 0 18 1) 3 = ah_n h 3 from rfl, k4]; show A 245 * 3 ≤ 60; omega) (.inl rfl) (by omega) hw (by decide) ⟨_, rfl, sh_si (sh_si hs), ?_⟩
    refine rl_ch (sh_si (sh_si hs)) ?_
    have hs2 : Sh (chg (ah_si (ah_si h 0 18 1) 3 (w * 3 + 2) (nI b))) := sh_chg (sh_si (sh_si hs))
    have e84 : ∀ j, ah_i (chg (ah_si (ah_si h 0 18 1) 3 (w * 3 + 2) (nI b))) 84 j = ah_i h 84 j := fun j => by rw [chg_i (by decide), ah_i_sn (by omega), ah_i_sn (by omega)]
    refine T_X12_shutter hs2 _ _ ?_
    simp only [q_two]
    (first | refine ⟨fun _ => ?_, fun n_ => absurd (c1) n_⟩ | refine ⟨fun n_ => absurd (c1) n_, fun _ => ?_⟩ | refine ⟨fun y_ => absurd y_ (c1), fun _ => ?_⟩ | refine ⟨fun _ => ?_, fun y_ => absurd y_ (c1)⟩)
    rw [isl _ e84, if_pos hin]
    (first | refine ⟨fun _ => ?_, fun n_ => absurd (show ¬ (1 : Int32) = 0 by decide) n_⟩ | refine ⟨fun n_ => absurd (show ¬ (1 : Int32) = 0 by decide) n_, fun _ => ?_⟩ | refine ⟨fun y_ => absurd y_ (show ¬ (1 : Int32) = 0 by decide), fun _ => ?_⟩ | refine ⟨fun _ => ?_, fun y_ => absurd y_ (show ¬ (1 : Int32) = 0 by decide)⟩)
    refine rl_rpg hs2 (0 + (w * 3 + 2)) (by grind) (by omega) ?_ ?_
    · rw [e84, Nat.zero_add, q6.2.1, ah_i_sn (by omega)]
      exact q6.1
    · have e0 : ah_si h 0 18 1 = h ∨ ah_si h 0 18 1 = ah_si h 0 18 1 := .inr rfl
      have o : ot (fun a => a = 3) (fun i => i = 0 + (w * 3 + 2)) A (up A (0 + (w * 3 + 2)) b) h (fS (ah_si h 0 18 1) 3 (w * 3 + 2) (nI b) (0 + (w * 3 + 2)) (nI b)) := ot_S e0 (by decide) (by decide)
      obtain ⟨q1, q2, q3, q4, q5, q6', q7, q8⟩ := tn
      obtain ⟨⟨a1, a2, a3⟩, w2, w3, w4, w5, w6, w7, w8⟩ := wf
      have wfn : WF (up A (0 + (w * 3 + 2)) b) := by
        refine ⟨⟨by rw [up_n (by omega)]; exact a1, fun v hv => ?_, fun v u hv hu => ?_⟩, wfL_fr (fun j _ _ => up_n (by omega)) (up_n (by omega)) w2, wfS_fr (fun j _ _ => up_n (by omega)) (up_n (by omega)) (by rw [up_n (by omega)]; omega) w3, wfN_fr (fun j _ _ => up_n (by omega)) (up_n (by omega)) w4, wfE_fr (fun j _ _ => up_n (by omega)) (up_n (by omega)) w5, wfO_fr (fun j _ _ => up_n (by omega)) (up_n (by omega)) (by rw [up_n (by omega)]; omega) w6, wfT_fr (fun j _ _ => up_n (by omega)) w7, wfX_fr (fun j _ _ => up_n (by omega)) w8⟩
        · rw [up_n (i := 245) (by omega)] at hv
          have := a2 v hv
          rw [up_n (i := 3 * v) (by omega), up_n (i := 3 * v + 1) (by omega)]
          refine ⟨this.1, this.2.1, ?_⟩
          by_cases e : 3 * v + 2 = 0 + (w * 3 + 2)
          · rw [e, up_s]; omega
          · rw [up_n e]; exact this.2.2
        · rw [up_n (i := 245) (by omega)] at hv
          rw [up_n (i := 3 * v) (by omega), up_n (i := 3 * v + 1) (by omega), up_n (i := 3 * u) (by omega), up_n (i := 3 * u + 1) (by omega)]
          exact a3 v u hv hu
      refine inv_told hTX hCC hCM (sh_fS e0 hs) im sc tp dr cc cm wfn ?_ (tl_S e0 (by decide) (by decide)) (.inl (by rw [fS_18 (by decide)]; exact ah_i_ss))
      exact ⟨cp3_set (h := h) (by omega) (by omega) (by omega) (fS_eq e0 (by decide) (by decide) (by decide) (by decide)).1 (fS_c e0 (by decide) (by decide)) (fS_84 e0 (by decide)) q1,
        ot_3 o (by omega) (by omega) (by omega) (by omega) (by omega) (by omega) (fun j hj => by omega) q2,
        ot_3 o (by omega) (by omega) (by omega) (by omega) (by omega) (by omega) (fun j hj => by omega) q3,
        ot_L o w4 (by omega) (by omega) (fun j hj => by omega) q4,
        ot_3 o (by omega) (by omega) (by omega) (by omega) (by omega) (by omega) (fun j hj => by omega) q5,
        ot_3 o (by omega) (by omega) (by omega) (by omega) (by omega) (by omega) (fun j hj => by omega) q6',
        ot_T o (by omega) (fun j hj => by omega) q7,
        ot_W o hTX w8 (by omega) (by omega) (fun j hj => by omega) q8⟩
  · refine ⟨_, rfl, hs, ?_⟩
    (first | refine ⟨fun _ => ?_, fun n_ => absurd (show (0 : Int32) = 0 by rfl) n_⟩ | refine ⟨fun n_ => absurd (show (0 : Int32) = 0 by rfl) n_, fun _ => ?_⟩ | refine ⟨fun y_ => absurd y_ (show (0 : Int32) = 0 by rfl), fun _ => ?_⟩ | refine ⟨fun _ => ?_, fun y_ => absurd y_ (show (0 : Int32) = 0 by rfl)⟩)
    have k4 : f_X12_isWay (cRf h (-2) 1) a = 0 := by rw [isl _ (fun j => rf_84 (by decide) (by decide)), if_neg c3]
    (refine rl_rf hs why2 (T_X12_shutter (sh_cRf hs) _ _ ?_); try simp only [q_corner, q_kind, q_minute, q_two, q_three, q_ten, qf0, qf1, qf2]; (first | refine ⟨fun _ => ?_, fun n_ => absurd (c1) n_⟩ | refine ⟨fun n_ => absurd (c1) n_, fun _ => ?_⟩ | refine ⟨fun y_ => absurd y_ (c1), fun _ => ?_⟩ | refine ⟨fun _ => ?_, fun y_ => absurd y_ (c1)⟩); (first | refine ⟨fun _ => ?_, fun n_ => absurd (k4) n_⟩ | refine ⟨fun n_ => absurd (k4) n_, fun _ => ?_⟩ | refine ⟨fun y_ => absurd y_ (k4), fun _ => ?_⟩ | refine ⟨fun _ => ?_, fun y_ => absurd y_ (k4)⟩); exact rl_mf hTX hCC hCM hI why2)
end RW
