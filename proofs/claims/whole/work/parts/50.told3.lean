/-! ===== told: what is well formed behind it; both sides ===== -/
theorem tk {h : ah_T} (hs : Sh h) (t : Nat) (ht : t = 2 ∨ t = 4 ∨ t = 6 ∨ t = 8 ∨ t = 10 ∨ t = 12) : ah_k h t = 7 ∧ ah_k h (t + 1) = 14 ∧ ah_r h t 2 = some (t + 1) ∧ ah_n h (t + 1) = sh_N (t + 1) := by
  refine ⟨?_, ?_, ?_, ?_⟩
  · rcases ht with rfl | rfl | rfl | rfl | rfl | rfl <;> exact sh_k hs _ 7 (by decide) rfl
  · rcases ht with rfl | rfl | rfl | rfl | rfl | rfl <;> exact sh_k hs _ 14 (by decide) rfl
  · rcases ht with rfl | rfl | rfl | rfl | rfl | rfl
    · exact hs.2.1 (2, 2, 3) (by decide +kernel)
    · exact hs.2.1 (4, 2, 5) (by decide +kernel)
    · exact hs.2.1 (6, 2, 7) (by decide +kernel)
    · exact hs.2.1 (8, 2, 9) (by decide +kernel)
    · exact hs.2.1 (10, 2, 11) (by decide +kernel)
    · exact hs.2.1 (12, 2, 13) (by decide +kernel)
  · rcases ht with rfl | rfl | rfl | rfl | rfl | rfl <;> exact sh_n hs _ _ (by decide) (by decide) rfl
section WA
variable {A : Nat → Nat} {x y z : Nat}
theorem wf_way (wf : WF A) (hn : A 245 < 20) (h1 : x < y) (h2 : y < 12) (h3 : ¬ ∃ w, w < A 245 ∧ A (3 * w) = x ∧ A (3 * w + 1) = y) : WF (up4 A 0 245 x y 0) := by
  obtain ⟨⟨a1, a2, a3⟩, w2, w3, w4, w5, w6, w7, w8⟩ := wf
  have e1 : up4 A 0 245 x y 0 (3 * A 245) = x := by rw [show 3 * A 245 = 0 + 3 * A 245 by omega]; exact up4_1 (by omega)
  have e2 : up4 A 0 245 x y 0 (3 * A 245 + 1) = y := by rw [show 3 * A 245 + 1 = 0 + (3 * A 245 + 1) by omega]; exact up4_2 (by omega)
  have e3 : up4 A 0 245 x y 0 (3 * A 245 + 2) = 0 := by rw [show 3 * A 245 + 2 = 0 + (3 * A 245 + 2) by omega]; exact up4_3 (by omega)
  refine ⟨⟨?_, fun w hw => ?_, fun w v hw hv => ?_⟩, wfL_fr (fun j _ _ => up4_n (by omega) (by omega)) (up4_n (by omega) (by omega)) w2, wfS_fr (fun j _ _ => up4_n (by omega) (by omega)) (up4_n (by omega) (by omega)) (by rw [up4_n (by omega) (by omega)]; omega) w3, wfN_fr (fun j _ _ => up4_n (by omega) (by omega)) (up4_n (by omega) (by omega)) w4, wfE_fr (fun j _ _ => up4_n (by omega) (by omega)) (up4_n (by omega) (by omega)) w5, wfO_fr (fun j _ _ => up4_n (by omega) (by omega)) (up4_n (by omega) (by omega)) (by rw [up4_n (by omega) (by omega)]; omega) w6, wfT_fr (fun j _ _ => up4_n (by omega) (by omega)) w7, wfX_fr (fun j _ _ => up4_n (by omega) (by omega)) w8⟩
  · rw [up4_m]; omega
  · rw [up4_m] at hw
    rcases Nat.lt_or_ge w (A 245) with k | k
    · rw [up4_n (by omega) (by omega), up4_n (by omega) (by omega), up4_n (by omega) (by omega)]
      exact a2 w k
    · have e : w = A 245 := by omega
      subst e
      rw [e1, e2, e3]
      omega
  · rw [up4_m] at hw
    rcases Nat.lt_or_ge w (A 245) with k | k
    · rw [up4_n (by omega) (by omega), up4_n (by omega) (by omega), up4_n (by omega) (by omega), up4_n (by omega) (by omega)]
      exact a3 w v k hv
    · have e : w = A 245 := by omega
      subst e
      rw [e1, e2, up4_n (by omega) (by omega), up4_n (by omega) (by omega)]
      exact fun q => h3 ⟨v, hv, q.1.symm, q.2.symm⟩
theorem wf_lamp (wf : WF A) (hn : A 246 < 10) (h1 : x < 12) (h2 : y < 6) (h3 : 1 ≤ z) (h4 : z ≤ 240) : WF (up4 A 60 246 x y z) := by
  obtain ⟨w1, ⟨a1, a2⟩, w3, w4, w5, w6, w7, w8⟩ := wf
  refine ⟨wfW_fr (fun j _ => up4_n (by omega) (by omega)) (up4_n (by omega) (by omega)) w1, ⟨?_, fun w hw => ?_⟩, wfS_fr (fun j _ _ => up4_n (by omega) (by omega)) (up4_n (by omega) (by omega)) (by rw [up4_m]; omega) w3, wfN_fr (fun j _ _ => up4_n (by omega) (by omega)) (up4_n (by omega) (by omega)) w4, wfE_fr (fun j _ _ => up4_n (by omega) (by omega)) (up4_n (by omega) (by omega)) w5, wfO_fr (fun j _ _ => up4_n (by omega) (by omega)) (up4_n (by omega) (by omega)) (by rw [up4_m]; omega) w6, wfT_fr (fun j _ _ => up4_n (by omega) (by omega)) w7, wfX_fr (fun j _ _ => up4_n (by omega) (by omega)) w8⟩
  · rw [up4_m]; omega
  · rw [up4_m] at hw
    rcases Nat.lt_or_ge w (A 246) with k | k
    · rw [up4_n (by omega) (by omega), up4_n (by omega) (by omega), up4_n (by omega) (by omega)]
      exact a2 w k
    · have e : w = A 246 := by omega
      subst e
      have e1 : up4 A 60 246 x y z (60 + 3 * A 246) = x := up4_1 (by omega)
      have e2 : up4 A 60 246 x y z (61 + 3 * A 246) = y := by rw [show 61 + 3 * A 246 = 60 + (3 * A 246 + 1) by omega]; exact up4_2 (by omega)
      have e3 : up4 A 60 246 x y z (62 + 3 * A 246) = z := by rw [show 62 + 3 * A 246 = 60 + (3 * A 246 + 2) by omega]; exact up4_3 (by omega)
      rw [e1, e2, e3]
      exact ⟨h1, h2, h3, h4⟩
theorem wf_switch (wf : WF A) (hn : A 247 < 24) (h1 : x < A 246) (h2 : y < 120) (h3 : z ≤ 1) : WF (up4 A 90 247 x y z) := by
  obtain ⟨w1, w2, ⟨a1, a2⟩, w4, w5, w6, w7, w8⟩ := wf
  refine ⟨wfW_fr (fun j _ => up4_n (by omega) (by omega)) (up4_n (by omega) (by omega)) w1, wfL_fr (fun j _ _ => up4_n (by omega) (by omega)) (up4_n (by omega) (by omega)) w2, ⟨?_, fun w hw => ?_⟩, wfN_fr (fun j _ _ => up4_n (by omega) (by omega)) (up4_n (by omega) (by omega)) w4, wfE_fr (fun j _ _ => up4_n (by omega) (by omega)) (up4_n (by omega) (by omega)) w5, wfO_fr (fun j _ _ => up4_n (by omega) (by omega)) (up4_n (by omega) (by omega)) (by rw [up4_n (by omega) (by omega)]; omega) w6, wfT_fr (fun j _ _ => up4_n (by omega) (by omega)) w7, wfX_fr (fun j _ _ => up4_n (by omega) (by omega)) w8⟩
  · rw [up4_m]; omega
  · rw [up4_m] at hw
    rcases Nat.lt_or_ge w (A 247) with k | k
    · rw [up4_n (by omega) (by omega), up4_n (by omega) (by omega), up4_n (by omega) (by omega), up4_n (by omega) (by omega)]
      exact a2 w k
    · have e : w = A 247 := by omega
      subst e
      have e1 : up4 A 90 247 x y z (90 + 3 * A 247) = x := up4_1 (by omega)
      have e2 : up4 A 90 247 x y z (91 + 3 * A 247) = y := by rw [show 91 + 3 * A 247 = 90 + (3 * A 247 + 1) by omega]; exact up4_2 (by omega)
      have e3 : up4 A 90 247 x y z (92 + 3 * A 247) = z := by rw [show 92 + 3 * A 247 = 90 + (3 * A 247 + 2) by omega]; exact up4_3 (by omega)
      rw [e1, e2, e3, up4_n (by omega) (by omega)]
      exact ⟨h1, h2, h3⟩
theorem wf_errand (wf : WF A) (hn : A 249 < 6) (h1 : x < 12) (h2 : y ≤ z) (h3 : z < 120) : WF (up4 A 200 249 x y z) := by
  obtain ⟨w1, w2, w3, w4, ⟨a1, a2⟩, w6, w7, w8⟩ := wf
  refine ⟨wfW_fr (fun j _ => up4_n (by omega) (by omega)) (up4_n (by omega) (by omega)) w1, wfL_fr (fun j _ _ => up4_n (by omega) (by omega)) (up4_n (by omega) (by omega)) w2, wfS_fr (fun j _ _ => up4_n (by omega) (by omega)) (up4_n (by omega) (by omega)) (by rw [up4_n (by omega) (by omega)]; omega) w3, wfN_fr (fun j _ _ => up4_n (by omega) (by omega)) (up4_n (by omega) (by omega)) w4, ⟨?_, fun w hw => ?_⟩, wfO_fr (fun j _ _ => up4_n (by omega) (by omega)) (up4_n (by omega) (by omega)) (by rw [up4_n (by omega) (by omega)]; omega) w6, wfT_fr (fun j _ _ => up4_n (by omega) (by omega)) w7, wfX_fr (fun j _ _ => up4_n (by omega) (by omega)) w8⟩
  · rw [up4_m]; omega
  · rw [up4_m] at hw
    rcases Nat.lt_or_ge w (A 249) with k | k
    · rw [up4_n (by omega) (by omega), up4_n (by omega) (by omega), up4_n (by omega) (by omega)]
      exact a2 w k
    · have e : w = A 249 := by omega
      subst e
      have e1 : up4 A 200 249 x y z (200 + 3 * A 249) = x := up4_1 (by omega)
      have e2 : up4 A 200 249 x y z (201 + 3 * A 249) = y := by rw [show 201 + 3 * A 249 = 200 + (3 * A 249 + 1) by omega]; exact up4_2 (by omega)
      have e3 : up4 A 200 249 x y z (202 + 3 * A 249) = z := by rw [show 202 + 3 * A 249 = 200 + (3 * A 249 + 2) by omega]; exact up4_3 (by omega)
      rw [e1, e2, e3]
      exact ⟨h1, h2, h3⟩
theorem wf_soot (wf : WF A) (hn : A 250 < 8) (h1 : x < A 246) (h2 : y < 120) (h3 : z ≤ 1) : WF (up4 A 218 250 x y z) := by
  obtain ⟨w1, w2, w3, w4, w5, ⟨a1, a2⟩, w7, w8⟩ := wf
  refine ⟨wfW_fr (fun j _ => up4_n (by omega) (by omega)) (up4_n (by omega) (by omega)) w1, wfL_fr (fun j _ _ => up4_n (by omega) (by omega)) (up4_n (by omega) (by omega)) w2, wfS_fr (fun j _ _ => up4_n (by omega) (by omega)) (up4_n (by omega) (by omega)) (by rw [up4_n (by omega) (by omega)]; omega) w3, wfN_fr (fun j _ _ => up4_n (by omega) (by omega)) (up4_n (by omega) (by omega)) w4, wfE_fr (fun j _ _ => up4_n (by omega) (by omega)) (up4_n (by omega) (by omega)) w5, ⟨?_, fun w hw => ?_⟩, wfT_fr (fun j _ _ => up4_n (by omega) (by omega)) w7, wfX_fr (fun j _ _ => up4_n (by omega) (by omega)) w8⟩
  · rw [up4_m]; omega
  · rw [up4_m] at hw
    rcases Nat.lt_or_ge w (A 250) with k | k
    · rw [up4_n (by omega) (by omega), up4_n (by omega) (by omega), up4_n (by omega) (by omega), up4_n (by omega) (by omega)]
      exact a2 w k
    · have e : w = A 250 := by omega
      subst e
      have e1 : up4 A 218 250 x y z (218 + 3 * A 250) = x := up4_1 (by omega)
      have e2 : up4 A 218 250 x y z (219 + 3 * A 250) = y := by rw [show 219 + 3 * A 250 = 218 + (3 * A 250 + 1) by omega]; exact up4_2 (by omega)
      have e3 : up4 A 218 250 x y z (220 + 3 * A 250) = z := by rw [show 220 + 3 * A 250 = 218 + (3 * A 250 + 2) by omega]; exact up4_3 (by omega)
      rw [e1, e2, e3, up4_n (by omega) (by omega)]
      exact ⟨h1, h2, h3⟩
end WA
section RW
variable {TX : ah_T → Nat → (Nat → Nat) → (Nat → Nat) → Nat → Prop} {CC : (Nat → Nat) → ah_T → Prop} {CM : Nat → (Nat → Nat) → ah_T → Prop} {A : Nat → Nat} {h h2 : ah_T} {n : Nat}
theorem mWy_of (wf : WF A) (tn : Tn TX A h 1 84 0) (e : ∀ j, ah_i h2 84 j = ah_i h 84 j) : mWy A h2 := by
  obtain ⟨w1, w2, w3⟩ := wf.1
  obtain ⟨c1, c2, c3, c4, c5, c6⟩ := tn.1
  simp only [Nat.zero_add] at c4 c6
  refine ⟨by rw [e]; exact c4, w1, fun w hw => ?_⟩
  have := w2 w hw
  rw [e, e]
  exact ⟨(c6 (3 * w) (by omega)).2.1, (c6 (3 * w + 1) (by omega)).2.1, this.1, this.2.1⟩
theorem cWy_of (wf : WF A) (tn : Tn TX A h 1 84 0) (e : ∀ j, ah_i h2 2 j = ah_i h 2 j) (e2 : ∀ j, ah_i h2 3 j = ah_i h 3 j) : cWy A h2 := by
  obtain ⟨w1, w2, w3⟩ := wf.1
  obtain ⟨c1, c2, c3, c4, c5, c6⟩ := tn.1
  simp only [Nat.zero_add] at c4 c6
  refine ⟨by rw [e]; exact c2, by rw [e]; exact c3, w1, fun w hw => ?_⟩
  have := w2 w hw
  rw [e2, e2]
  exact ⟨(c6 (3 * w) (by omega)).1, (c6 (3 * w + 1) (by omega)).1, this.1, this.2.1⟩
/-- how many, as both sides have it -/
theorem cp3_m {t room many base : Nat} (q : cp3 A h t 84 0 room many base) : ah_i h t 0 = nI room ∧ ah_i h t 1 = nI 3 ∧ ah_i h t 3 = nI (A many) ∧ ah_i h 84 many = nI (A many) ∧ A many ≤ room := by
  obtain ⟨q1, q2, q3, q4, q5, q6⟩ := q
  simp only [Nat.zero_add] at q4
  exact ⟨q1, q2, q3, q4, q5⟩
theorem c_full3 {Q : Option Value → ah_T → Prop} (hs : Sh h2) {t room m : Nat} (ht : t = 2 ∨ t = 4 ∨ t = 6 ∨ t = 8 ∨ t = 10 ∨ t = 12) (e0 : ah_i h2 t 0 = nI room) (e3 : ah_i h2 t 3 = nI m) (hr : room ≤ 100) (hm : m ≤ room) (h1 : m = room → Q (some (.int 1)) h2) (h0 : m < room → Q (some (.int 0)) h2) : Mt mX7_isFull [.ref t] h2 Q := by
  obtain ⟨k1, k2, k3, k4⟩ := tk hs t ht
  refine c_isFull hs t (t + 1) k1 k2 k3 ?_
  rw [e0, e3]
  by_cases c : m < room
  · rw [if_pos (nI_lt c (by omega))]; exact h0 c
  · rw [if_neg (nI_nlt (by omega) (by omega))]; exact h1 (by omega)
theorem c_has3 {Q : Option Value → ah_T → Prop} (hs : Sh h2) {t m : Nat} {x : Int32} (ht : t = 2 ∨ t = 4 ∨ t = 6 ∨ t = 8 ∨ t = 10 ∨ t = 12) (e3 : ah_i h2 t 3 = nI m) (hm : m ≤ 100) (h1 : ∀ j, j < m → x = nI j → Q (some (.int 1)) h2) (h0 : ¬ (0 ≤ x ∧ x < nI m) → Q (some (.int 0)) h2) : Mt mX7_has [.ref t, .int x] h2 Q := by
  obtain ⟨k1, k2, k3, k4⟩ := tk hs t ht
  refine c_has hs t (t + 1) x k1 k2 k3 ?_
  rw [e3]
  by_cases c : 0 ≤ x ∧ x < nI m
  · rw [if_pos c]
    obtain ⟨j, hj, e⟩ := q_hasn (by omega) c
    exact h1 j hj e
  · rw [if_neg c]; exact h0 c
set_option maxHeartbeats 1000000 in
theorem rel_way (hTX : TXp TX) (hCC : CCp CC) (hCM : CMp CM) (a b : Int32) : lw_RC (Inv TX CC CM (n + 1)) (Inv TX CC CM n) mX11_way mX12_way [.int a, .int b] := by
  intro h hI
  have hI' := hI
  obtain ⟨hs, A, B0, B1, d, D, wf, tn, im, sc, tp, dr, cc, cm⟩ := hI'
  refine T_X11_way hs a b ?_
  by_cases c1 : f_X11_isIn a 12 = 0
  · (first | refine ⟨fun _ => ?_, fun n_ => absurd (c1) n_⟩ | refine ⟨fun n_ => absurd (c1) n_, fun _ => ?_⟩ | refine ⟨fun y_ => absurd y_ (c1), fun _ => ?_⟩ | refine ⟨fun _ => ?_, fun y_ => absurd y_ (c1)⟩)
    refine rl_rf hs why1 (T_X12_way (sh_cRf hs) a b ?_)
    simp only [q_corner]
    (first | refine ⟨fun _ => ?_, fun n_ => absurd (c1) n_⟩ | refine ⟨fun n_ => absurd (c1) n_, fun _ => ?_⟩ | refine ⟨fun y_ => absurd y_ (c1), fun _ => ?_⟩ | refine ⟨fun _ => ?_, fun y_ => absurd y_ (c1)⟩)
    exact rl_mf hTX hCC hCM hI why1
  (first | refine ⟨fun _ => ?_, fun n_ => absurd (c1) n_⟩ | refine ⟨fun n_ => absurd (c1) n_, fun _ => ?_⟩ | refine ⟨fun y_ => absurd y_ (c1), fun _ => ?_⟩ | refine ⟨fun _ => ?_, fun y_ => absurd y_ (c1)⟩)
  by_cases c2 : f_X11_isIn b 12 = 0
  · (first | refine ⟨fun _ => ?_, fun n_ => absurd (c2) n_⟩ | refine ⟨fun n_ => absurd (c2) n_, fun _ => ?_⟩ | refine ⟨fun y_ => absurd y_ (c2), fun _ => ?_⟩ | refine ⟨fun _ => ?_, fun y_ => absurd y_ (c2)⟩)
    refine rl_rf hs why1 (T_X12_way (sh_cRf hs) a b ?_)
    simp only [q_corner]
    (first | refine ⟨fun _ => ?_, fun n_ => absurd (c1) n_⟩ | refine ⟨fun n_ => absurd (c1) n_, fun _ => ?_⟩ | refine ⟨fun y_ => absurd y_ (c1), fun _ => ?_⟩ | refine ⟨fun _ => ?_, fun y_ => absurd y_ (c1)⟩)
    (first | refine ⟨fun _ => ?_, fun n_ => absurd (c2) n_⟩ | refine ⟨fun n_ => absurd (c2) n_, fun _ => ?_⟩ | refine ⟨fun y_ => absurd y_ (c2), fun _ => ?_⟩ | refine ⟨fun _ => ?_, fun y_ => absurd y_ (c2)⟩)
    exact rl_mf hTX hCC hCM hI why1
  (first | refine ⟨fun _ => ?_, fun n_ => absurd (c2) n_⟩ | refine ⟨fun n_ => absurd (c2) n_, fun _ => ?_⟩ | refine ⟨fun y_ => absurd y_ (c2), fun _ => ?_⟩ | refine ⟨fun _ => ?_, fun y_ => absurd y_ (c2)⟩)
  by_cases c3 : a = b
  · (first | refine ⟨fun _ => ?_, fun n_ => absurd (c3) n_⟩ | refine ⟨fun n_ => absurd (c3) n_, fun _ => ?_⟩ | refine ⟨fun y_ => absurd y_ (c3), fun _ => ?_⟩ | refine ⟨fun _ => ?_, fun y_ => absurd y_ (c3)⟩)
    refine rl_rf hs why1 (T_X12_way (sh_cRf hs) a b ?_)
    simp only [q_corner]
    (first | refine ⟨fun _ => ?_, fun n_ => absurd (c1) n_⟩ | refine ⟨fun n_ => absurd (c1) n_, fun _ => ?_⟩ | refine ⟨fun y_ => absurd y_ (c1), fun _ => ?_⟩ | refine ⟨fun _ => ?_, fun y_ => absurd y_ (c1)⟩)
    (first | refine ⟨fun _ => ?_, fun n_ => absurd (c2) n_⟩ | refine ⟨fun n_ => absurd (c2) n_, fun _ => ?_⟩ | refine ⟨fun y_ => absurd y_ (c2), fun _ => ?_⟩ | refine ⟨fun _ => ?_, fun y_ => absurd y_ (c2)⟩)
    (first | refine ⟨fun _ => ?_, fun n_ => absurd (c3) n_⟩ | refine ⟨fun n_ => absurd (c3) n_, fun _ => ?_⟩ | refine ⟨fun y_ => absurd y_ (c3), fun _ => ?_⟩ | refine ⟨fun _ => ?_, fun y_ => absurd y_ (c3)⟩)
    exact rl_mf hTX hCC hCM hI why1
  (first | refine ⟨fun _ => ?_, fun n_ => absurd (c3) n_⟩ | refine ⟨fun n_ => absurd (c3) n_, fun _ => ?_⟩ | refine ⟨fun y_ => absurd y_ (c3), fun _ => ?_⟩ | refine ⟨fun _ => ?_, fun y_ => absurd y_ (c3)⟩)
  obtain ⟨a, ha, rfl⟩ := q_isn (n := 12) (by decide) c1
  obtain ⟨b, hb, rfl⟩ := q_isn (n := 12) (by decide) c2
  have hab : a ≠ b := fun q => c3 (by rw [q])
  refine c_isWay hs (cWy_of wf tn (fun _ => rfl) (fun _ => rfl)) a b ha hb (fun c4 => ?_) (fun c4 => ?_)
  · refine ⟨_, rfl, hs, ?_⟩
    (first | refine ⟨fun _ => ?_, fun n_ => absurd (show ¬ (1 : Int32) = 0 by decide) n_⟩ | refine ⟨fun n_ => absurd (show ¬ (1 : Int32) = 0 by decide) n_, fun _ => ?_⟩ | refine ⟨fun y_ => absurd y_ (show ¬ (1 : Int32) = 0 by decide), fun _ => ?_⟩ | refine ⟨fun _ => ?_, fun y_ => absurd y_ (show ¬ (1 : Int32) = 0 by decide)⟩)
    refine rl_rf hs why3 (T_X12_way (sh_cRf hs) _ _ ?_)
    simp only [q_corner]
    (first | refine ⟨fun _ => ?_, fun n_ => absurd (c1) n_⟩ | refine ⟨fun n_ => absurd (c1) n_, fun _ => ?_⟩ | refine ⟨fun y_ => absurd y_ (c1), fun _ => ?_⟩ | refine ⟨fun _ => ?_, fun y_ => absurd y_ (c1)⟩)
    (first | refine ⟨fun _ => ?_, fun n_ => absurd (c2) n_⟩ | refine ⟨fun n_ => absurd (c2) n_, fun _ => ?_⟩ | refine ⟨fun y_ => absurd y_ (c2), fun _ => ?_⟩ | refine ⟨fun _ => ?_, fun y_ => absurd y_ (c2)⟩)
    (first | refine ⟨fun _ => ?_, fun n_ => absurd (c3) n_⟩ | refine ⟨fun n_ => absurd (c3) n_, fun _ => ?_⟩ | refine ⟨fun y_ => absurd y_ (c3), fun _ => ?_⟩ | refine ⟨fun _ => ?_, fun y_ => absurd y_ (c3)⟩)
    refine m_hasWay (sh_cRf hs) (mWy_of wf tn (fun j => rf_84 (by decide) (by decide))) a b ha hb (fun _ _ => ?_) (fun q => absurd ⟨hab, c4⟩ q)
    refine ⟨_, rfl, sh_cRf hs, ?_⟩
    (first | refine ⟨fun _ => ?_, fun n_ => absurd (show ¬ (1 : Int32) = 0 by decide) n_⟩ | refine ⟨fun n_ => absurd (show ¬ (1 : Int32) = 0 by decide) n_, fun _ => ?_⟩ | refine ⟨fun y_ => absurd y_ (show ¬ (1 : Int32) = 0 by decide), fun _ => ?_⟩ | refine ⟨fun _ => ?_, fun y_ => absurd y_ (show ¬ (1 : Int32) = 0 by decide)⟩)
    exact rl_mf hTX hCC hCM hI why3
  refine ⟨_, rfl, hs, ?_⟩
  (first | refine ⟨fun _ => ?_, fun n_ => absurd (show (0 : Int32) = 0 by rfl) n_⟩ | refine ⟨fun n_ => absurd (show (0 : Int32) = 0 by rfl) n_, fun _ => ?_⟩ | refine ⟨fun y_ => absurd y_ (show (0 : Int32) = 0 by rfl), fun _ => ?_⟩ | refine ⟨fun _ => ?_, fun y_ => absurd y_ (show (0 : Int32) = 0 by rfl)⟩)
  obtain ⟨p0, p1, p3, p4, p5⟩ := cp3_m tn.1
  obtain ⟨k1, k2, k3, k4⟩ := tk hs 2 (.inl rfl)
  refine c_full3 hs (.inl rfl) p0 p3 (by omega) p5 (fun c5 => ?_) (fun c5 => ?_)
  · refine ⟨_, rfl, hs, ?_⟩
    (first | refine ⟨fun _ => ?_, fun n_ => absurd (show ¬ (1 : Int32) = 0 by decide) n_⟩ | refine ⟨fun n_ => absurd (show ¬ (1 : Int32) = 0 by decide) n_, fun _ => ?_⟩ | refine ⟨fun y_ => absurd y_ (show ¬ (1 : Int32) = 0 by decide), fun _ => ?_⟩ | refine ⟨fun _ => ?_, fun y_ => absurd y_ (show ¬ (1 : Int32) = 0 by decide)⟩)
    refine rl_rf hs why5 (T_X12_way (sh_cRf hs) _ _ ?_)
    simp only [q_corner]
    (first | refine ⟨fun _ => ?_, fun n_ => absurd (c1) n_⟩ | refine ⟨fun n_ => absurd (c1) n_, fun _ => ?_⟩ | refine ⟨fun y_ => absurd y_ (c1), fun _ => ?_⟩ | refine ⟨fun _ => ?_, fun y_ => absurd y_ (c1)⟩)
    (first | refine ⟨fun _ => ?_, fun n_ => absurd (c2) n_⟩ | refine ⟨fun n_ => absurd (c2) n_, fun _ => ?_⟩ | refine ⟨fun y_ => absurd y_ (c2), fun _ => ?_⟩ | refine ⟨fun _ => ?_, fun y_ => absurd y_ (c2)⟩)
    (first | refine ⟨fun _ => ?_, fun n_ => absurd (c3) n_⟩ | refine ⟨fun n_ => absurd (c3) n_, fun _ => ?_⟩ | refine ⟨fun y_ => absurd y_ (c3), fun _ => ?_⟩ | refine ⟨fun _ => ?_, fun y_ => absurd y_ (c3)⟩)
    refine m_hasWay (sh_cRf hs) (mWy_of wf tn (fun j => rf_84 (by decide) (by decide))) a b ha hb (fun _ q => absurd q c4) (fun _ => ?_)
    refine ⟨_, rfl, sh_cRf hs, ?_⟩
    (first | refine ⟨fun _ => ?_, fun n_ => absurd (show (0 : Int32) = 0 by rfl) n_⟩ | refine ⟨fun n_ => absurd (show (0 : Int32) = 0 by rfl) n_, fun _ => ?_⟩ | refine ⟨fun y_ => absurd y_ (show (0 : Int32) = 0 by rfl), fun _ => ?_⟩ | refine ⟨fun _ => ?_, fun y_ => absurd y_ (show (0 : Int32) = 0 by rfl)⟩)
    rw [cl_245, rf_84 (by decide) (by decide), p4, c5]
    (first | refine ⟨fun _ => ?_, fun n_ => absurd (show nI 20 = 20 by rfl) n_⟩ | refine ⟨fun n_ => absurd (show nI 20 = 20 by rfl) n_, fun _ => ?_⟩ | refine ⟨fun y_ => absurd y_ (show nI 20 = 20 by rfl), fun _ => ?_⟩ | refine ⟨fun _ => ?_, fun y_ => absurd y_ (show nI 20 = 20 by rfl)⟩)
    exact rl_mf hTX hCC hCM hI why5
  refine ⟨_, rfl, hs, ?_⟩
  (first | refine ⟨fun _ => ?_, fun n_ => absurd (show (0 : Int32) = 0 by rfl) n_⟩ | refine ⟨fun n_ => absurd (show (0 : Int32) = 0 by rfl) n_, fun _ => ?_⟩ | refine ⟨fun y_ => absurd y_ (show (0 : Int32) = 0 by rfl), fun _ => ?_⟩ | refine ⟨fun _ => ?_, fun y_ => absurd y_ (show (0 : Int32) = 0 by rfl)⟩)
  rintro h18 rfl
  rw [mm_lo a b (by omega) (by omega), mm_hi a b (by omega) (by omega)]
  refine c_add (h := ah_si h 0 18 1) hs 2 3 _ _ _ k1 k2 k3 (r := 20) (w := 3) (n := A 245) p0 p1 p3 (by rw [show ah_n (ah_si h 0 18 1) 3 = ah_n h 3 from rfl, k4]; rfl) (.inl rfl) (by omega) c5 (by omega) ?_
  have hs1 : Sh (cA (ah_si h 0 18 1) 2 (A 245) (min a b) (max a b) 0) := sh_cA (sh_si hs)
  refine ⟨_, rfl, hs1, ?_⟩
  refine rl_ch hs1 ?_
  have hs2 := sh_chg hs1
  have e84 : ∀ j, ah_i (chg (cA (ah_si h 0 18 1) 2 (A 245) (min a b) (max a b) 0)) 84 j = ah_i h 84 j := fun j => by rw [chg_i (by decide), cA_i (by decide) (by decide), ah_i_sn (by omega)]
  refine T_X12_way hs2 _ _ ?_
  simp only [q_corner]
  (first | refine ⟨fun _ => ?_, fun n_ => absurd (c1) n_⟩ | refine ⟨fun n_ => absurd (c1) n_, fun _ => ?_⟩ | refine ⟨fun y_ => absurd y_ (c1), fun _ => ?_⟩ | refine ⟨fun _ => ?_, fun y_ => absurd y_ (c1)⟩)
  (first | refine ⟨fun _ => ?_, fun n_ => absurd (c2) n_⟩ | refine ⟨fun n_ => absurd (c2) n_, fun _ => ?_⟩ | refine ⟨fun y_ => absurd y_ (c2), fun _ => ?_⟩ | refine ⟨fun _ => ?_, fun y_ => absurd y_ (c2)⟩)
  (first | refine ⟨fun _ => ?_, fun n_ => absurd (c3) n_⟩ | refine ⟨fun n_ => absurd (c3) n_, fun _ => ?_⟩ | refine ⟨fun y_ => absurd y_ (c3), fun _ => ?_⟩ | refine ⟨fun _ => ?_, fun y_ => absurd y_ (c3)⟩)
  refine m_hasWay hs2 (mWy_of wf tn e84) a b ha hb (fun _ q => absurd q c4) (fun _ => ?_)
  refine ⟨_, rfl, hs2, ?_⟩
  (first | refine ⟨fun _ => ?_, fun n_ => absurd (show (0 : Int32) = 0 by rfl) n_⟩ | refine ⟨fun n_ => absurd (show (0 : Int32) = 0 by rfl) n_, fun _ => ?_⟩ | refine ⟨fun y_ => absurd y_ (show (0 : Int32) = 0 by rfl), fun _ => ?_⟩ | refine ⟨fun _ => ?_, fun y_ => absurd y_ (show (0 : Int32) = 0 by rfl)⟩)
  rw [cl_245, e84, p4, f_higher a b (by omega) (by omega), f_lesser a b (by omega) (by omega)]
  (first | refine ⟨fun _ => ?_, fun n_ => absurd (show ¬ nI (A 245) = 20 by rw [n_20, nI_eq (by omega) (by omega)]; omega) n_⟩ | refine ⟨fun n_ => absurd (show ¬ nI (A 245) = 20 by rw [n_20, nI_eq (by omega) (by omega)]; omega) n_, fun _ => ?_⟩ | refine ⟨fun y_ => absurd y_ (show ¬ nI (A 245) = 20 by rw [n_20, nI_eq (by omega) (by omega)]; omega), fun _ => ?_⟩ | refine ⟨fun _ => ?_, fun y_ => absurd y_ (show ¬ nI (A 245) = 20 by rw [n_20, nI_eq (by omega) (by omega)]; omega)⟩)
  have hs3 := sh_mA (b := 0) (m := 245) (n := A 245) (x := min a b) (y := max a b) (z := 0) hs2
  refine m_comesBehind hs2 _ _ _ _ _ 0 245 (A 245) rfl rfl (by rw [e84, p4]) (by omega) (by omega) ⟨_, rfl, hs3, ?_⟩
  refine rl_go hs3 (by rw [nI_pred]) ?_
  exact inv_told hTX hCC hCM (sh_god hs3) im sc tp dr cc cm (wf_way wf c5 (by omega) (by omega) (fun q => c4 q)) (Tn_way (x := min a b) (y := max a b) (z := 0) hTX wf tn c5 (by omega) (by omega) (by omega)) tl_way rb_way
end RW
