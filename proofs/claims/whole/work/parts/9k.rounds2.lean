/-! ===== rounds on both sides: the relation ===== -/
section RR
variable {CC : (Nat → Nat) → ah_T → Prop} {CM : Nat → (Nat → Nat) → ah_T → Prop} {n : Nat}
def CCw (CC : (Nat → Nat) → ah_T → Prop) : Prop := ∀ A h, CC A h → wB h
theorem Tn_6w {A A' : Nat → Nat} {h h2 : ah_T} (wf : WF A) (tn : Tn TXm A h 1 84 0) (e : ∀ a, ((1 ≤ a ∧ a ≤ 5) ∨ (8 ≤ a ∧ a ≤ 15) ∨ (123 ≤ a ∧ a < ah_x h)) → eqc h h2 a) (ex : ah_x h ≤ ah_x h2) (c : c6 A' h2) (m : m6 A' h2) (e84 : ∀ j, j < 5860 → (j < 90 ∨ 162 ≤ j) → j ≠ 247 → (j < 2660 ∨ (3060 ≤ j ∧ j < 5460)) → j ≠ 259 → ah_i h2 84 j = ah_i h 84 j) (eA : ∀ j, (j < 90 ∨ 162 ≤ j) → j ≠ 247 → A' j = A j) : Tn TXm A' h2 1 84 0 := by
  obtain ⟨q1, q2, q3, q4, q5, q6, q7, q8⟩ := tn
  obtain ⟨c1, c2, c3, c4, c5, c7, c8⟩ := c
  obtain ⟨m1, m2, m3, m4, m5⟩ := m
  have st : ∀ a, a ≤ 15 → 1 ≤ a → a ≠ 6 → a ≠ 7 → eqc h h2 a := fun a h1 h2 h3 h4 => e a (by omega)
  have z : ∀ j, j < 259 → (j < 90 ∨ 162 ≤ j) → j ≠ 247 → ah_i h2 84 (0 + j) = ah_i h 84 (0 + j) ∧ A' j = A j := fun j h1 h2 h3 => by rw [Nat.zero_add]; exact ⟨e84 j (by omega) h2 h3 (by omega) (by omega), eA j h2 h3⟩
  refine ⟨cp3_fr (st 2 (by omega) (by omega) (by omega) (by omega)).1 (st 3 (by omega) (by omega) (by omega) (by omega)).1 (fun j hj => z j (by omega) (by omega) (by omega)) q1,
    cp3_fr (st 4 (by omega) (by omega) (by omega) (by omega)).1 (st 5 (by omega) (by omega) (by omega) (by omega)).1 (fun j hj => z j (by omega) (by omega) (by omega)) q2, ?_,
    cpL_fr wf.2.2.2.1 (st 8 (by omega) (by omega) (by omega) (by omega)).1 (st 9 (by omega) (by omega) (by omega) (by omega)).1 (fun j hj => z j (by omega) (by omega) (by omega)) q4,
    cp3_fr (st 10 (by omega) (by omega) (by omega) (by omega)).1 (st 11 (by omega) (by omega) (by omega) (by omega)).1 (fun j hj => z j (by omega) (by omega) (by omega)) q5,
    cp3_fr (st 12 (by omega) (by omega) (by omega) (by omega)).1 (st 13 (by omega) (by omega) (by omega) (by omega)).1 (fun j hj => z j (by omega) (by omega) (by omega)) q6,
    cpT_fr (st 14 (by omega) (by omega) (by omega) (by omega)).1 (fun j hj => z j (by omega) (by omega) (by omega)) q7, ?_⟩
  · refine ⟨c3, c4, c5, by rw [Nat.zero_add]; exact m3, c7, fun j hj => ?_⟩
    rw [Nat.zero_add]
    exact ⟨(c8 j hj).1, m5 j hj, (c8 j hj).2⟩
  · obtain ⟨r1, r2, r3, r4, r5, r6⟩ := q8
    simp only [Nat.zero_add] at r3 r4 r5
    obtain ⟨w1, w2, w3⟩ := wf.2.2.2.2.2.2.2
    unfold cpW
    simp only [Nat.zero_add]
    have a251 := eA 251 (by omega) (by omega)
    have a252 := eA 252 (by omega) (by omega)
    have i1 := (st 1 (by omega) (by omega) (by omega) (by omega)).1
    refine ⟨by rw [i1, a251]; exact r1, by rw [i1, a252]; exact r2, by rw [e84 251 (by omega) (by omega) (by omega) (by omega) (by omega), a251]; exact r3, by rw [e84 252 (by omega) (by omega) (by omega) (by omega) (by omega), a252]; exact r4, fun t ht => ?_, lkB_fr (st 15 (by omega) (by omega) (by omega) (by omega)).2.2.1 (fun x _ _ _ i hi => e _ (by omega)) ex r6⟩
    rw [a251] at ht
    obtain ⟨s1, s2, y, s3, s4⟩ := r5 t ht
    obtain ⟨w4, w5⟩ := w3 t ht
    have at1 := eA (253 + t) (by omega) (by omega)
    refine ⟨by rw [e84 _ (by omega) (by omega) (by omega) (by omega) (by omega), at1]; exact s1, fun k hk => ?_, y, by rw [(st 15 (by omega) (by omega) (by omega) (by omega)).2.2.1]; exact s3, ?_⟩
    · rw [at1] at hk
      rw [e84 _ (by omega) (by omega) (by omega) (by omega) (by omega), e84 _ (by omega) (by omega) (by omega) (by omega) (by omega), eA _ (by omega) (by omega), eA _ (by omega) (by omega)]
      exact s2 k hk
    · rw [at1]
      refine TXmp.2.2 _ _ _ _ _ _ _ (fun k hk => ⟨eA _ (by omega) (by omega), eA _ (by omega) (by omega)⟩) (TXmp.1 _ _ _ _ _ _ s4 (fun i hi => ?_) ex)
      have := TXmp.2.1 _ _ _ _ _ s4
      exact e _ (by omega)
/-- the invariant behind a call that changes nothing of the town, its cells told anew -/
theorem inv_keep {A B0 B1 : Nat → Nat} {h h2 : ah_T} {n d' : Nat} {D' : Nat → Nat} (hCC : CCp CC) (hCM : CMp CM) (wf : WF A) (im : Im TXm B0 B1 h) (dr : Dr h) (cc : CC A h) (cm : CM (n + 1) A h)
    (hs2 : Sh h2) (tn' : Tn TXm A h2 1 84 0) (eg : ∀ a, stayG h a → eqc h h2 a) (ex : ah_x h ≤ ah_x h2) (sc2 : Sc h2) (tp2 : Tp d' D' h2) (wb : wB h → wB h2) (f77 : ah_i h2 82 77 = ah_i h 82 77) (f19 : ah_i h2 0 19 = ah_i h 0 19) (f18 : ah_i h2 0 18 = ah_i h 0 18)
    (ver : ah_i h2 82 1 = ah_i h 82 1) (g82 : ∀ j, (j = 29 ∨ j = 49 ∨ j = 60 ∨ j = 61 ∨ j = 62) → ah_i h2 82 j = ah_i h 82 j) : Inv TXm CC CM n h2 := by
  refine ⟨hs2, A, B0, B1, d', D', wf, tn', ?_, sc2, tp2, ?_, ?_, ?_⟩
  · exact Im_fr TXmp (fun a h1 h2 => eg a (by unfold stayG; omega)) (eg 16 (by unfold stayG; omega)) (eg 85 (by unfold stayG; omega)) (eg 86 (by unfold stayG; omega)) ex im
  · unfold Dr
    rw [f77]
    simp only [(eg 19 (by unfold stayG; omega)).1, (eg 122 (by unfold stayG; omega)).1]
    exact dr
  · exact hCC.1 _ _ _ cc (agC_w (fun a h1 h2 => eg a (by unfold stayG; omega)) (fun a h1 h2 => eg a (by unfold stayG; omega)) ex wb) f18 f19
  · exact hCM.2.1 _ _ _ (hCM.1 _ _ _ _ cm ⟨fun a ha => eg a (by unfold stayG; omega), g82⟩ ver)
theorem wB_q {h h2 : ah_T} {w0 : Nat → Int} (f : ∀ j, j < 13 → -1000000000 ≤ (ah_i h2 27 j).toInt ∧ (ah_i h2 27 j).toInt ≤ 1000000000) : wB h → wB h2 := fun _ => f
end RR
