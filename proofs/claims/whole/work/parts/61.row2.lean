/-! ===== row: switches from the tape ===== -/
theorem si_same {h : ah_T} {a j : Nat} {x : Int32} (e : ah_i h a j = x) : ah_si h a j x = h := by
  refine ah_ext (fun _ => rfl) (fun _ => rfl) (fun b k => ?_) (fun _ _ => rfl) (fun _ _ => rfl) rfl
  rw [ah_i_si]
  by_cases c : b = a ∧ k = j
  · rw [if_pos c, c.1, c.2, e]
  · rw [if_neg c]
/-- cells that a call must leave, if it only tells switches (or texts) -/
def stay (a : Nat) : Prop := (1 ≤ a ∧ a ≤ 5) ∨ (8 ≤ a ∧ a ≤ 16) ∨ a = 18 ∨ a = 19 ∨ (27 ≤ a ∧ a < 82) ∨ a = 83 ∨ (85 ≤ a ∧ a ≤ 87) ∨ (95 ≤ a ∧ a ≤ 97) ∨ (109 ≤ a ∧ a ≤ 111) ∨ 122 ≤ a
section SW
variable {TX : ah_T → Nat → (Nat → Nat) → (Nat → Nat) → Nat → Prop} {CC : (Nat → Nat) → ah_T → Prop} {CM : Nat → (Nat → Nat) → ah_T → Prop} {A A' B0 B1 : Nat → Nat} {h h2 : ah_T} {n d d' : Nat} {D D' : Nat → Nat}
theorem c6_of (wf : WF A) (tn : Tn TX A h 1 84 0) (e4 : ∀ j, ah_i h2 4 j = ah_i h 4 j) (e6 : ∀ j, ah_i h2 6 j = ah_i h 6 j) (e7 : ∀ j, ah_i h2 7 j = ah_i h 7 j) : c6 A h2 := by
  obtain ⟨q1, q2, q3, q4, q5, q6, q7, q8⟩ := tn
  obtain ⟨a1, a2, a3, a4, a5⟩ := cp3_m q2
  obtain ⟨b1, b2, b3, b4, b5, b6⟩ := q3
  exact ⟨by rw [e4]; exact a3, a5, by rw [e6]; exact b1, by rw [e6]; exact b2, by rw [e6]; exact b3, b5, fun j hj => by rw [e7]; exact ⟨(b6 j hj).1, (b6 j hj).2.2⟩⟩
theorem m6_of (wf : WF A) (tn : Tn TX A h 1 84 0) (e : ∀ j, ah_i h2 84 j = ah_i h 84 j) : m6 A h2 := by
  obtain ⟨q1, q2, q3, q4, q5, q6, q7, q8⟩ := tn
  obtain ⟨a1, a2, a3, a4, a5⟩ := cp3_m q2
  obtain ⟨b1, b2, b3, b4, b5, b6⟩ := q3
  simp only [Nat.zero_add] at b4 b6
  exact ⟨by rw [e]; exact a4, a5, by rw [e]; exact b4, b5, fun j hj => by rw [e]; exact (b6 j hj).2.1⟩
theorem Tn_6 (hTX : TXp TX) (wf : WF A) (tn : Tn TX A h 1 84 0) (e : ∀ a, stay a → eqc h h2 a) (ex : ah_x h ≤ ah_x h2) (c : c6 A' h2) (m : m6 A' h2) (e84 : ∀ j, j < 5860 → (j < 90 ∨ 162 ≤ j) → j ≠ 247 → ah_i h2 84 j = ah_i h 84 j ∧ A' j = A j) (e1 : eqc h h2 1) : Tn TX A' h2 1 84 0 := by
  obtain ⟨q1, q2, q3, q4, q5, q6, q7, q8⟩ := tn
  obtain ⟨c1, c2, c3, c4, c5, c7, c8⟩ := c
  obtain ⟨m1, m2, m3, m4, m5⟩ := m
  have st : ∀ a, a ≤ 15 → 1 ≤ a → a ≠ 6 → a ≠ 7 → eqc h h2 a := fun a h1 h2 h3 h4 => e a (by unfold stay; omega)
  have z : ∀ j, j < 5860 → (j < 90 ∨ 162 ≤ j) → j ≠ 247 → ah_i h2 84 (0 + j) = ah_i h 84 (0 + j) ∧ A' j = A j := fun j h1 h2 h3 => by rw [Nat.zero_add]; exact e84 j h1 h2 h3
  refine ⟨cp3_fr (st 2 (by omega) (by omega) (by omega) (by omega)).1 (st 3 (by omega) (by omega) (by omega) (by omega)).1 (fun j hj => z j (by omega) (by omega) (by omega)) q1,
    cp3_fr (st 4 (by omega) (by omega) (by omega) (by omega)).1 (st 5 (by omega) (by omega) (by omega) (by omega)).1 (fun j hj => z j (by omega) (by omega) (by omega)) q2, ?_,
    cpL_fr wf.2.2.2.1 (st 8 (by omega) (by omega) (by omega) (by omega)).1 (st 9 (by omega) (by omega) (by omega) (by omega)).1 (fun j hj => z j (by omega) (by omega) (by omega)) q4,
    cp3_fr (st 10 (by omega) (by omega) (by omega) (by omega)).1 (st 11 (by omega) (by omega) (by omega) (by omega)).1 (fun j hj => z j (by omega) (by omega) (by omega)) q5,
    cp3_fr (st 12 (by omega) (by omega) (by omega) (by omega)).1 (st 13 (by omega) (by omega) (by omega) (by omega)).1 (fun j hj => z j (by omega) (by omega) (by omega)) q6,
    cpT_fr (st 14 (by omega) (by omega) (by omega) (by omega)).1 (fun j hj => z j (by omega) (by omega) (by omega)) q7,
    cpW_fr wf.2.2.2.2.2.2.2 hTX (e1.1 8) (e1.1 9) (st 15 (by omega) (by omega) (by omega) (by omega)).2.2.1 (fun j h1 h2 => z j (by omega) (by omega) (by omega)) (fun x hx _ _ i hi => e _ (by unfold stay; omega)) ex q8⟩
  refine ⟨c3, c4, c5, by rw [Nat.zero_add]; exact m3, c7, fun j hj => ?_⟩
  rw [Nat.zero_add]
  exact ⟨(c8 j hj).1, m5 j hj, (c8 j hj).2⟩
theorem inv_sw (hTX : TXp TX) (hCC : CCp CC) (hCM : CMp CM) (wf : WF A) (tn : Tn TX A h 1 84 0) (im : Im TX B0 B1 h) (dr : Dr h) (cc : CC A h) (cm : CM (n + 1) A h)
    (hs2 : Sh h2) (e : ∀ a, stay a → eqc h h2 a) (ex : ah_x h ≤ ah_x h2) (wf' : WF A') (c : c6 A' h2) (m : m6 A' h2) (e84 : ∀ j, j < 5860 → (j < 90 ∨ 162 ≤ j) → j ≠ 247 → ah_i h2 84 j = ah_i h 84 j ∧ A' j = A j)
    (sc2 : Sc h2) (tp2 : Tp d' D' h2) (f77 : ah_i h2 82 77 = ah_i h 82 77) (f19 : ah_i h2 0 19 = 1) (f18 : ah_i h2 0 18 = ah_i h 0 18) (ver : ah_i h2 82 1 = ah_i h 82 1 + 1) (g82 : ∀ j, (j = 29 ∨ j = 49 ∨ j = 60 ∨ j = 61 ∨ j = 62) → ah_i h2 82 j = ah_i h 82 j) : Inv TX CC CM n h2 := by
  refine ⟨hs2, A', B0, B1, d', D', wf', Tn_6 hTX wf tn e ex c m e84 (e 1 (by unfold stay; omega)), ?_, sc2, tp2, ?_, ?_, ?_⟩
  · exact Im_fr hTX (fun a ha _ => e a (by unfold stay; omega)) (e 16 (by unfold stay; omega)) (e 85 (by unfold stay; omega)) (e 86 (by unfold stay; omega)) ex im
  · unfold Dr
    rw [f77]
    simp only [(e 19 (by unfold stay; omega)).1, (e 122 (by unfold stay; omega)).1]
    exact dr
  · exact hCC.2.2 _ _ _ _ cc (agC_of (fun a h1 h2 => e a (by unfold stay; omega)) (fun a h1 h2 => e a (by unfold stay; omega)) ex) f18 f19 (fun j hj => (e84 j (by omega) (by omega) (by omega)).2) (e84 245 (by omega) (by omega) (by omega)).2 (e84 246 (by omega) (by omega) (by omega)).2
  · exact hCM.2.2 _ _ _ _ _ cm ⟨fun a ha => e a (by unfold stay; omega), g82⟩ ver
end SW
section RO
variable {TX : ah_T → Nat → (Nat → Nat) → (Nat → Nat) → Nat → Prop} {CC : (Nat → Nat) → ah_T → Prop} {CM : Nat → (Nat → Nat) → ah_T → Prop} {A : Nat → Nat} {n : Nat} {D : Nat → Nat}
def rA (D A : Nat → Nat) : Nat → (Nat → Nat)
  | 0 => A
  | k + 1 => tA (rA D A k) (nI (D (3 * k))) (nI (D (3 * k + 1))) (nI (D (3 * k + 2)))
def rF (D A : Nat → Nat) : Nat → Nat
  | 0 => 0
  | k + 1 => rF D A k + if tw (rA D A k) (nI (D (3 * k))) (nI (D (3 * k + 1))) (nI (D (3 * k + 2))) = 0 then 0 else 1
theorem wf_rA (wf : WF A) : ∀ k, WF (rA D A k)
  | 0 => wf
  | k + 1 => wf_tA (wf_rA wf k)
theorem rA_n (wf : WF A) {j : Nat} (hj : j < 90 ∨ 162 ≤ j) (h7 : j ≠ 247) : ∀ k, rA D A k j = A j
  | 0 => rfl
  | k + 1 => (tA_n (wf_rA wf k) hj h7).trans (rA_n wf hj h7 k)
theorem rA_c (wf : WF A) : ∀ k, rA D A k 247 + rF D A k = A 247 + k
  | 0 => rfl
  | k + 1 => by
    have ih := rA_c wf k
    show tA (rA D A k) _ _ _ 247 + (rF D A k + _) = _
    rw [tA_m (wf_rA wf k)]
    split <;> omega
theorem sB_i (b : Nat) (hb : b < 256) {m : Nat} (hm : m ≤ 120) : (0 ≤ sB b ∧ sB b < nI m) ↔ b < m := by
  unfold sB
  by_cases c : b < 128
  · rw [if_pos c]
    constructor
    · intro q; exact (nI_ltI (by omega) (by omega)).mp q.2
    · intro q; exact ⟨nI_pos' (by omega), nI_lt q (by omega)⟩
  · rw [if_neg c]
    constructor
    · intro q; grind
    · intro q; omega
theorem isIn_sB (b : Nat) (hb : b < 256) {m : Nat} (hm : m ≤ 120) : f_X11_isIn (sB b) (nI m) = f_X11_isIn (nI b) (nI m) := by
  have h1 := sB_i b hb hm
  unfold f_X11_isIn
  by_cases c : b < m
  · have := h1.mpr c
    rw [if_neg (by grind), if_neg (by grind), if_neg (nI_pos (by omega)), if_neg (by grind)]
  · by_cases c2 : sB b < 0
    · rw [if_pos c2, if_neg (nI_pos (by omega)), if_pos (by grind)]
    · have : ¬ (0 ≤ sB b ∧ sB b < nI m) := fun q => c (h1.mp q)
      rw [if_neg c2, if_pos (by grind), if_neg (nI_pos (by omega)), if_pos (by grind)]
theorem tw_sB (hA : A 246 ≤ 10) {b1 b2 b3 : Nat} (h1 : b1 < 256) (h2 : b2 < 256) (h3 : b3 < 256) : tw A (sB b1) (sB b2) (sB b3) = tw A (nI b1) (nI b2) (nI b3) := by
  unfold tw
  rw [show (120 : Int32) = nI 120 from rfl, show (2 : Int32) = nI 2 from rfl, isIn_sB b2 h2 (by omega), isIn_sB b3 h3 (by omega)]
  have e : (0 ≤ sB b1 ∧ sB b1 < nI (A 246)) ↔ (0 ≤ nI b1 ∧ nI b1 < nI (A 246)) := by
    rw [sB_i b1 h1 (by omega), nI_ltI (by omega) (by omega)]
    exact ⟨fun q => ⟨nI_pos' (by omega), q⟩, fun q => q.2⟩
  simp only [e]
theorem tA_sB (hA : A 246 ≤ 10) (h24 : A 247 ≤ 24) {b1 b2 b3 : Nat} (h1 : b1 < 256) (h2 : b2 < 256) (h3 : b3 < 256) : tA A (sB b1) (sB b2) (sB b3) = tA A (nI b1) (nI b2) (nI b3) := by
  unfold tA
  rw [tw_sB hA h1 h2 h3]
  by_cases c : tw A (nI b1) (nI b2) (nI b3) = 0
  · obtain ⟨l, m, o, hl, hm, ho, e1, e2, e3, k⟩ := tw_got hA h24 c
    rw [nI_eq (by omega) (by omega)] at e1 e2 e3
    subst e1 e2 e3
    rw [show sB b1 = nI b1 from if_pos (by omega), show sB b2 = nI b2 from if_pos (by omega), show sB b3 = nI b3 from if_pos (by omega)]
  · rw [if_neg c, if_neg c]
theorem c_row_k {Q : Option Value → ah_T → Prop} (wf : WF A) {d : Nat} (hd : d ≤ 400) (e0 : Nat) (he : e0 ≤ 1) (bf : Int32) : ∀ (q k : Nat) (h : ah_T), k + q = d / 3 → Sh h → c6 (rA D A k) h → (∀ j, j < d → ah_i h 17 j = nI (D j)) →
    (∀ h', Sh h' → ah_x h' = ah_x h → c6 (rA D A (d / 3)) h' → (∀ a, a ≠ 6 → a ≠ 7 → eqc h h' a) → Mt mX11_change [.ref 0, .int (ah_i (ah_si h' 0 15 (nI (e0 + rF D A (d / 3)))) 6 3 - bf)] (ah_si h' 0 15 (nI (e0 + rF D A (d / 3)))) (ab_qi fun v h13 => Sh h13 ∧ Q (some (.int v)) h13)) →
    Wp mX11_row Q 0 0 42 [some (.ref 0), some (.int (nI d)), some (.int bf), some (.int (nI (e0 + rF D A k))), some (.int (nI (3 * k)))] [] h := by
  intro q
  induction q with
  | zero =>
    intro k h hk hs c e hq
    have hk2 : k = d / 3 := by omega
    subst hk2
    refine T_X11_row_42 hs _ _ _ _ ?_
    (first | refine ⟨fun _ => ?_, fun n_ => absurd (show nI d ≤ nI (3 * (d / 3)) + 2 by grind) n_⟩ | refine ⟨fun n_ => absurd (show nI d ≤ nI (3 * (d / 3)) + 2 by grind) n_, fun _ => ?_⟩ | refine ⟨fun y_ => absurd y_ (show nI d ≤ nI (3 * (d / 3)) + 2 by grind), fun _ => ?_⟩ | refine ⟨fun _ => ?_, fun y_ => absurd y_ (show nI d ≤ nI (3 * (d / 3)) + 2 by grind)⟩)
    rintro h10 rfl
    exact hq h hs rfl c (fun _ _ _ => eqc_rfl)
  | succ q ih =>
    intro k h hk hs c e hq
    have hk3 : 3 * k + 2 < d := by omega
    have hn17 : ah_n h 17 = 400 := sh_n hs 17 400 (by decide) (by decide) rfl
    have a1 : nI (3 * k) + 1 = nI (3 * k + 1) := nI_1 _
    have a2 : nI (3 * k) + 2 = nI (3 * k + 2) := nI_add _ 2
    have a3 : nI (3 * k) + 3 = nI (3 * (k + 1)) := nI_add _ 3
    refine T_X11_row_42 hs _ _ _ _ ?_
    rw [a1, a2, a3]
    (first | refine ⟨fun _ => ?_, fun n_ => absurd (show ¬ nI d ≤ nI (3 * k + 2) from nI_ge hk3 (by omega)) n_⟩ | refine ⟨fun n_ => absurd (show ¬ nI d ≤ nI (3 * k + 2) from nI_ge hk3 (by omega)) n_, fun _ => ?_⟩ | refine ⟨fun y_ => absurd y_ (show ¬ nI d ≤ nI (3 * k + 2) from nI_ge hk3 (by omega)), fun _ => ?_⟩ | refine ⟨fun _ => ?_, fun y_ => absurd y_ (show ¬ nI d ≤ nI (3 * k + 2) from nI_ge hk3 (by omega))⟩)
    (first | refine ⟨fun _ => ?_, fun n_ => absurd (show ¬ 400 ≤ nI (3 * k + 2) by grind) n_⟩ | refine ⟨fun n_ => absurd (show ¬ 400 ≤ nI (3 * k + 2) by grind) n_, fun _ => ?_⟩ | refine ⟨fun y_ => absurd y_ (show ¬ 400 ≤ nI (3 * k + 2) by grind), fun _ => ?_⟩ | refine ⟨fun _ => ?_, fun y_ => absurd y_ (show ¬ 400 ≤ nI (3 * k + 2) by grind)⟩)
    rw [nI_clamp (by omega), nI_clamp (by omega), nI_clamp (by omega), e _ (by omega), e _ (by omega), e _ (by omega), hn17]
    refine ⟨(vp_nI (by omega)).mpr (by omega), (vp_nI (by omega)).mpr (by omega), (vp_nI (by omega)).mpr (by omega), ?_⟩
    refine c_tell6 hs c _ _ _ (fun h' w1 w2 w3 w4 => ⟨_, rfl, w1, ?_⟩)
    have go : Wp mX11_row Q 0 0 42 [some (.ref 0), some (.int (nI d)), some (.int bf), some (.int (nI (e0 + rF D A (k + 1)))), some (.int (nI (3 * (k + 1))))] [] h' :=
      ih (k + 1) h' (by omega) w1 w3 (fun j hj => by rw [(w4 17 (by decide) (by decide)).1]; exact e j hj) (fun h2 v1 v2 v3 v4 => hq h2 v1 (by rw [v2, w2]) v3 (fun a n1 n2 => eqc_trans (w4 a n1 n2) (v4 a n1 n2)))
    by_cases z : tw (rA D A k) (nI (D (3 * k))) (nI (D (3 * k + 1))) (nI (D (3 * k + 2))) = 0
    · (first | refine ⟨fun _ => ?_, fun n_ => absurd (z) n_⟩ | refine ⟨fun n_ => absurd (z) n_, fun _ => ?_⟩ | refine ⟨fun y_ => absurd y_ (z), fun _ => ?_⟩ | refine ⟨fun _ => ?_, fun y_ => absurd y_ (z)⟩)
      have er : rF D A (k + 1) = rF D A k := by show rF D A k + (if _ then 0 else 1) = _; rw [if_pos z]; rfl
      rw [er] at go
      exact go
    · (first | refine ⟨fun _ => ?_, fun n_ => absurd (z) n_⟩ | refine ⟨fun n_ => absurd (z) n_, fun _ => ?_⟩ | refine ⟨fun y_ => absurd y_ (z), fun _ => ?_⟩ | refine ⟨fun _ => ?_, fun y_ => absurd y_ (z)⟩)
      have er : rF D A (k + 1) = rF D A k + 1 := by show rF D A k + (if _ then 0 else 1) = _; rw [if_neg z]
      rw [nI_1]
      rw [er] at go
      exact go
theorem m_row_k {Q : Option Value → ah_T → Prop} (wf : WF A) {d : Nat} (hd : d ≤ 400) (hD : ∀ j, j < d → D j < 256) (e0 : Nat) (he : e0 ≤ 1) : ∀ (q k : Nat) (h : ah_T), k + q = d / 3 → Sh h → m6 (rA D A k) h → (∀ j, j < d → ah_i h 88 j = sB (D j)) → ah_i h 82 6 = nI (e0 + rF D A k) → rF D A k ≤ k →
    (∀ h', Sh h' → ah_x h' = ah_x h → m6 (rA D A (d / 3)) h' → (∀ a, a ≠ 82 → a ≠ 84 → eqc h h' a) → (∀ j, j ≠ 6 → ah_i h' 82 j = ah_i h 82 j) → ah_i h' 82 6 = nI (e0 + rF D A (d / 3)) → (∀ j, (j < 90 ∨ 162 ≤ j) → j ≠ 247 → ah_i h' 84 j = ah_i h 84 j) → Mt mX12_good [.ref 82, .int (nI (d / 3 - rF D A (d / 3)))] h' (ab_qi fun v h13 => Sh h13 ∧ Q (some (.int v)) h13)) →
    Wp mX12_row Q 0 0 40 [some (.ref 82), some (.int (nI d)), some (.int (nI (k - rF D A k))), some (.int (nI (3 * k))), none] [] h := by
  intro q
  induction q with
  | zero =>
    intro k h hk hs c e e6 hle hq
    have hk2 : k = d / 3 := by omega
    subst hk2
    refine T_X12_row_40 hs _ _ _ ?_
    (first | refine ⟨fun _ => ?_, fun n_ => absurd (show nI d < nI (3 * (d / 3)) + 3 by grind) n_⟩ | refine ⟨fun n_ => absurd (show nI d < nI (3 * (d / 3)) + 3 by grind) n_, fun _ => ?_⟩ | refine ⟨fun y_ => absurd y_ (show nI d < nI (3 * (d / 3)) + 3 by grind), fun _ => ?_⟩ | refine ⟨fun _ => ?_, fun y_ => absurd y_ (show nI d < nI (3 * (d / 3)) + 3 by grind)⟩)
    exact hq h hs rfl c (fun _ _ _ => eqc_rfl) (fun _ _ => rfl) e6 (fun _ _ _ => rfl)
  | succ q ih =>
    intro k h hk hs c e e6 hle hq
    have hk3 : 3 * k + 2 < d := by omega
    have hn88 : ah_n h 88 = 400 := sh_n hs 88 400 (by decide) (by decide) rfl
    have a1 : nI (3 * k) + 1 = nI (3 * k + 1) := nI_1 _
    have a2 : nI (3 * k) + 2 = nI (3 * k + 2) := nI_add _ 2
    have a3 : nI (3 * k) + 3 = nI (3 * (k + 1)) := nI_add _ 3
    refine T_X12_row_40 hs _ _ _ ?_
    rw [a1, a2, a3]
    (first | refine ⟨fun _ => ?_, fun n_ => absurd (show ¬ nI d < nI (3 * (k + 1)) from nI_nlt (by omega) (by omega)) n_⟩ | refine ⟨fun n_ => absurd (show ¬ nI d < nI (3 * (k + 1)) from nI_nlt (by omega) (by omega)) n_, fun _ => ?_⟩ | refine ⟨fun y_ => absurd y_ (show ¬ nI d < nI (3 * (k + 1)) from nI_nlt (by omega) (by omega)), fun _ => ?_⟩ | refine ⟨fun _ => ?_, fun y_ => absurd y_ (show ¬ nI d < nI (3 * (k + 1)) from nI_nlt (by omega) (by omega))⟩)
    rw [nI_clamp (by omega), nI_clamp (by omega), nI_clamp (by omega), e _ (by omega), e _ (by omega), e _ (by omega), hn88]
    refine ⟨(vp_nI (by omega)).mpr (by omega), (vp_nI (by omega)).mpr (by omega), (vp_nI (by omega)).mpr (by omega), ?_⟩
    refine m_tell6 hs c _ _ _ (fun h' w1 w2 w3 w4 w5 => ⟨_, rfl, w1, ?_⟩)
    have wk := wf_rA (D := D) wf k
    rw [tA_sB wk.2.1.1 wk.2.2.1.1 (hD _ (by omega)) (hD _ (by omega)) (hD _ (by omega))] at w3
    rw [tw_sB wk.2.1.1 (hD _ (by omega)) (hD _ (by omega)) (hD _ (by omega)), (w4 82 (by decide)).1, e6]
    have go : ∀ (x : Int32), x = nI (e0 + rF D A (k + 1)) → rF D A (k + 1) ≤ k + 1 → Wp mX12_row Q 0 0 40 [some (.ref 82), some (.int (nI d)), some (.int (nI (k + 1 - rF D A (k + 1)))), some (.int (nI (3 * (k + 1)))), none] [] (ah_si h' 82 6 x) := by
      intro x ex hle2
      refine ih (k + 1) _ (by omega) (sh_si w1) ?_ (fun j hj => by rw [ah_i_sn (by omega), (w4 88 (by decide)).1]; exact e j hj) (by rw [ah_i_ss, ex]) hle2 (fun h2 v1 v2 v3 v4 v5 v6 v7 => hq h2 v1 (by rw [v2, ah_x_si, w2]) v3 (fun a n1 n2 => eqc_trans (eqc_trans (w4 a n2) (eqc_si eqc_rfl n1)) (v4 a n1 n2)) (fun j hj => by rw [v5 j hj, ah_i_sn (by omega), (w4 82 (by decide)).1]) v6 (fun j h1 h2 => by rw [v7 j h1 h2, ah_i_sn (by omega), w5 j h1 h2]))
      obtain ⟨u1, u2, u3, u4, u5⟩ := w3
      exact ⟨by rw [ah_i_sn (by omega)]; exact u1, u2, by rw [ah_i_sn (by omega)]; exact u3, u4, fun j hj => by rw [ah_i_sn (by omega)]; exact u5 j hj⟩
    by_cases z : tw (rA D A k) (nI (D (3 * k))) (nI (D (3 * k + 1))) (nI (D (3 * k + 2))) = 0
    · have er : rF D A (k + 1) = rF D A k := by show rF D A k + (if _ then 0 else 1) = _; rw [if_pos z]; rfl
      (first | refine ⟨fun _ => ?_, fun n_ => absurd (z) n_⟩ | refine ⟨fun n_ => absurd (z) n_, fun _ => ?_⟩ | refine ⟨fun y_ => absurd y_ (z), fun _ => ?_⟩ | refine ⟨fun _ => ?_, fun y_ => absurd y_ (z)⟩)
      rintro h29 rfl
      rw [nI_1, show nI (k - rF D A k + 1) = nI (k + 1 - rF D A (k + 1)) by congr 1; omega]
      exact go _ (by rw [er]; grind) (by omega)
    · have er : rF D A (k + 1) = rF D A k + 1 := by show rF D A k + (if _ then 0 else 1) = _; rw [if_neg z]
      (first | refine ⟨fun _ => ?_, fun n_ => absurd (z) n_⟩ | refine ⟨fun n_ => absurd (z) n_, fun _ => ?_⟩ | refine ⟨fun y_ => absurd y_ (z), fun _ => ?_⟩ | refine ⟨fun _ => ?_, fun y_ => absurd y_ (z)⟩)
      rintro h26 rfl
      rw [show nI (k - rF D A k) + 0 = nI (k + 1 - rF D A (k + 1)) by rw [er, show k + 1 - (rF D A k + 1) = k - rF D A k by omega]; grind]
      exact go _ (by rw [er, nI_1]; congr 1) (by omega)
theorem rF_le (wf : WF A) (k : Nat) : rF D A k ≤ k := by
  induction k with
  | zero => exact Nat.le_refl _
  | succ k ih =>
    show rF D A k + (if _ then 0 else 1) ≤ k + 1
    split <;> omega
end RO
