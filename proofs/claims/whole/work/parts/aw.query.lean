/-! ===== calls that tell nothing ===== -/
def SXp (SX : (Nat → Nat) → ah_T → Prop) : Prop := (∀ A h h', (∀ j, (j = 1 ∨ j = 60 ∨ j = 61 ∨ j = 62) → ah_i h' 82 j = ah_i h 82 j) → SX A h → SX A h') ∧ ∀ A h, ah_i h 82 62 ≠ ah_i h 82 1 → SX A h
/-- what the model keeps; n calls may come -/
def CMg (SX : (Nat → Nat) → ah_T → Prop) (n : Nat) (A : Nat → Nat) (h : ah_T) : Prop := (∃ v : Nat, ah_i h 82 1 = nI v ∧ v + n ≤ 1000 ∧ (ah_i h 82 49).toInt ≤ v ∧ (ah_i h 82 62).toInt ≤ v) ∧ (∃ g : Nat, (ah_l h 38 7).toInt = g ∧ g + n ≤ 1000) ∧ (∀ j, j < mBy.length → ah_i h 87 j = nI (mBy.getD j 0)) ∧ mKn A h ∧ mNg A h ∧ SX A h
section QU
variable {KX : ah_T → Prop} {RX WX SX : (Nat → Nat) → ah_T → Prop} {A A' : Nat → Nat} {h h' h2 g : ah_T} {g0 n : Nat}
theorem mKn_e (e : ∀ a, (a = 95 ∨ a = 96 ∨ a = 97) → ∀ j, ah_i g a j = ah_i h a j) (e29 : ah_i g 82 29 = ah_i h 82 29) (e1 : ah_i g 82 1 = ah_i h 82 1) (k : mKn A h) : mKn A g := by
  refine ⟨by unfold kvO; rw [e29, e1]; exact k.1, ?_⟩
  intro q
  rw [e29, e1] at q
  obtain ⟨k1, k2, k3⟩ := k.2 q
  refine ⟨fun l k o' ne la mi z1 z2 z3 z4 z5 z6 => ?_, fun l k mi z1 z2 z3 => ?_, fun l k mi z1 z2 z3 => ?_⟩
  · rw [e 95 (by omega)]; exact k1 l k o' ne la mi z1 z2 z3 z4 z5 z6
  · rw [e 96 (by omega)]; exact k2 l k mi z1 z2 z3
  · rw [e 97 (by omega)]; exact k3 l k mi z1 z2 z3
theorem mNg_e (e : ∀ a, (a = 109 ∨ a = 110 ∨ a = 111) → ∀ j, ah_i g a j = ah_i h a j) (e49 : ah_i g 82 49 = ah_i h 82 49) (e1 : ah_i g 82 1 = ah_i h 82 1) (k : mNg A h) : mNg A g := by
  intro q
  rw [e49, e1] at q
  exact mNt_fr e (k q)
theorem CMg_p (hS : SXp SX) : CMp (CMg SX) := by
  refine ⟨fun n A h h' c a e1 => ?_, fun n A h c => ?_, fun n A A' h h' c a e1 => ?_⟩
  · obtain ⟨⟨v, c1, c2, c3, c4⟩, ⟨g, c5, c6⟩, c7, c8, c9, c10⟩ := c
    have e2 : ∀ j, (j = 29 ∨ j = 49 ∨ j = 60 ∨ j = 61 ∨ j = 62) → ah_i h' 82 j = ah_i h 82 j := a.2
    refine ⟨⟨v, by rw [e1]; exact c1, c2, by rw [e2 49 (by omega)]; exact c3, by rw [e2 62 (by omega)]; exact c4⟩, ⟨g, by rw [(a.1 38 (by omega)).2.1]; exact c5, c6⟩, fun j hj => by rw [(a.1 87 (by omega)).1]; exact c7 j hj, mKn_e (fun b hb => (a.1 b (by omega)).1) (e2 29 (by omega)) e1 c8, mNg_e (fun b hb => (a.1 b (by omega)).1) (e2 49 (by omega)) e1 c9, hS.1 _ _ _ (fun j hj => ?_) c10⟩
    rcases hj with rfl | rfl | rfl | rfl
    · exact e1
    · exact e2 60 (by omega)
    · exact e2 61 (by omega)
    · exact e2 62 (by omega)
  · obtain ⟨⟨v, c1, c2, c3, c4⟩, ⟨g, c5, c6⟩, c7, c8, c9, c10⟩ := c
    exact ⟨⟨v, c1, by omega, c3, c4⟩, ⟨g, c5, by omega⟩, c7, c8, c9, c10⟩
  · obtain ⟨⟨v, c1, c2, c3, c4⟩, ⟨g, c5, c6⟩, c7, c8, c9, c10⟩ := c
    have e2 : ∀ j, (j = 29 ∨ j = 49 ∨ j = 60 ∨ j = 61 ∨ j = 62) → ah_i h' 82 j = ah_i h 82 j := a.2
    have ev : ah_i h' 82 1 = nI (v + 1) := by rw [e1, c1, nI_1]
    have tv : (nI (v + 1)).toInt = (v : Int) + 1 := by rw [nI_toInt (by omega)]; omega
    have c81 : (ah_i h 82 29).toInt ≤ v := by
      have := c8.1
      unfold kvO at this
      rw [c1, nI_toInt (by omega)] at this
      exact this
    have no : ∀ j, (j = 29 ∨ j = 49 ∨ j = 62) → (ah_i h 82 j).toInt ≤ v → ¬ ah_i h' 82 j = ah_i h' 82 1 := by
      intro j hj hv q
      rw [e2 j (by omega), ev] at q
      rw [q, tv] at hv
      omega
    refine ⟨⟨v + 1, ev, by omega, by rw [e2 49 (by omega)]; omega, by rw [e2 62 (by omega)]; omega⟩, ⟨g, by rw [(a.1 38 (by omega)).2.1]; exact c5, by omega⟩, fun j hj => by rw [(a.1 87 (by omega)).1]; exact c7 j hj, ⟨?_, fun q => absurd q (no 29 (by omega) c81)⟩, fun q => absurd q (no 49 (by omega) c3), hS.2 _ _ (no 62 (by omega) c4)⟩
    unfold kvO
    rw [e2 29 (by omega), ev, tv]
    omega
theorem CMg_w : CMw (CMg SX) := fun _ _ _ c => c.2.2.1
theorem CCg_w : CCw (CCg KX RX WX) := fun _ _ c => c.1
/-- all but what is kept -/
def bsO (A : Nat → Nat) (h : ah_T) : Prop := ∃ (B0 B1 : Nat → Nat) (d : Nat) (D : Nat → Nat), WF A ∧ Tn TXm A h 1 84 0 ∧ Im TXm B0 B1 h ∧ Sc h ∧ Tp d D h ∧ Dr h
/-- off what is found out all is as it was -/
def qF (h h' : ah_T) : Prop := Sh h' ∧ ah_x h ≤ ah_x h' ∧ (∀ a, ((1 ≤ a ∧ a < 26) ∨ (83 ≤ a ∧ a ≤ 88) ∨ a = 122 ∨ (123 ≤ a ∧ a < ah_x h)) → eqc h h' a) ∧ (∀ j, j ≠ 18 → j ≠ 19 → ah_i h' 0 j = ah_i h 0 j) ∧ ∀ j, (j = 0 ∨ j = 1 ∨ j = 6 ∨ j = 11 ∨ j = 12 ∨ j = 66 ∨ j = 77) → ah_i h' 82 j = ah_i h 82 j
theorem bsO_q (f : qF h g) (b : bsO A h) : bsO A g := by
  obtain ⟨B0, B1, d, D, b1, b2, b3, ⟨s1, s2, s3, s4, s5, s6, s7, s8, s9⟩, ⟨t1, t2, t3, t4⟩, b6⟩ := b
  obtain ⟨f1, f2, f3, f4, f5⟩ := f
  refine ⟨B0, B1, d, D, b1, ?_, ?_, ?_, ?_, ?_⟩
  · exact Tn_fr b1 TXmp (fun i hi => f3 _ (by omega)) (f3 84 (by omega)) (fun x h1 _ h2 i hi => f3 _ (by omega)) f2 b2
  · exact Im_fr TXmp (fun a h1 h2 => f3 a (by omega)) (f3 16 (by omega)) (f3 85 (by omega)) (f3 86 (by omega)) f2 b3
  · have e18 := (f3 18 (by omega)).1
    have e83 := (f3 83 (by omega)).1
    exact ⟨by rw [f4 17 (by decide) (by decide), f5 0 (by omega)]; exact s1, by rw [e18, e83]; exact s2, by rw [e18, e83]; exact s3, by rw [e18, e83]; exact s4, by rw [e18, e83]; exact s5, by rw [e18, e83]; exact s6, by rw [f4 15 (by decide) (by decide), f5 6 (by omega)]; exact s7, by rw [f4 14 (by decide) (by decide), f5 12 (by omega)]; exact s8, by rw [f4 16 (by decide) (by decide), f5 66 (by omega)]; exact s9⟩
  · exact ⟨t1, by rw [f4 13 (by decide) (by decide)]; exact t2, by rw [f5 11 (by omega)]; exact t3, fun j hj => by rw [(f3 17 (by omega)).1, (f3 88 (by omega)).1]; exact t4 j hj⟩
  · unfold Dr
    rw [f5 77 (by omega), (f3 19 (by omega)).1]
    rcases b6 with y | y
    · exact .inl y
    · refine .inr ⟨y.1, fun j hj => ?_⟩
      rw [(f3 19 (by omega)).1, (f3 122 (by omega)).1]
      exact y.2 j hj
theorem qF_r (hs : Sh h) : qF h h := ⟨hs, Nat.le_refl _, fun _ _ => eqc_rfl, fun _ _ _ => rfl, fun _ _ => rfl⟩
theorem qF_t {h1 : ah_T} (p : qF h g) (q : qF g h1) : qF h h1 := ⟨q.1, Nat.le_trans p.2.1 q.2.1, fun a n => eqc_trans (p.2.2.1 a n) (q.2.2.1 a (by have := p.2.1; omega)), fun j n1 n2 => by rw [q.2.2.2.1 j n1 n2, p.2.2.2.1 j n1 n2], fun j n => by rw [q.2.2.2.2 j n, p.2.2.2.2 j n]⟩
theorem qF_lo (f : loF h g) : qF h g := ⟨f.1, Nat.le_of_eq f.2.1.symm, fun a n => f.2.2.1 a (by omega), f.2.2.2, fun j _ => (f.2.2.1 82 (by omega)).1 j⟩
/-- the model looks and runs nights -/
def mdF (h h' : ah_T) : Prop := Sh h' ∧ ah_x h' = ah_x h ∧ (∀ a, (a < 82 ∨ (83 ≤ a ∧ a ≤ 88) ∨ 122 ≤ a) → eqc h h' a) ∧ ∀ j, (j = 0 ∨ j = 1 ∨ j = 6 ∨ j = 11 ∨ j = 12 ∨ j = 66 ∨ j = 77 ∨ j = 60 ∨ j = 61 ∨ j = 62) → ah_i h' 82 j = ah_i h 82 j
theorem mdF_r (hs : Sh h) : mdF h h := ⟨hs, rfl, fun _ _ => eqc_rfl, fun _ _ => rfl⟩
theorem mdF_t {h1 : ah_T} (p : mdF h g) (q : mdF g h1) : mdF h h1 := ⟨q.1, by rw [q.2.1, p.2.1], fun a n => eqc_trans (p.2.2.1 a n) (q.2.2.1 a n), fun j n => by rw [q.2.2.2 j n, p.2.2.2 j n]⟩
theorem mdF_ly (f : lyF h g) : mdF h g := ⟨f.1, f.2.1, fun a n => f.2.2.1 a (by omega) (by omega) (by omega), fun j n => f.2.2.2 j (by omega)⟩
theorem mdF_k (f : knF h g) : mdF h g := mdF_ly (lyF_k f)
theorem mdF_l (f : lkF h g) : mdF h g := mdF_ly (lyF_l f)
theorem qF_md (f : mdF h g) : qF h g := ⟨f.1, Nat.le_of_eq f.2.1.symm, fun a n => f.2.2.1 a (by omega), fun j _ _ => (f.2.2.1 0 (by omega)).1 j, fun j n => f.2.2.2 j (by omega)⟩
/-- ahead of the model's run -/
def preQ (KX : ah_T → Prop) (RX WX SX : (Nat → Nat) → ah_T → Prop) (n : Nat) (A : Nat → Nat) (h : ah_T) : Prop := bsO A h ∧ CCg KX RX WX A h ∧ CMg SX n A h
theorem inv_of (hs : Sh h) (p : preQ KX RX WX SX n A h) : Inv TXm (CCg KX RX WX) (CMg SX) n h := by
  obtain ⟨⟨B0, B1, d, D, b1, b2, b3, b4, b5, b6⟩, p2, p3⟩ := p
  exact ⟨hs, A, B0, B1, d, D, b1, b2, b3, b4, b5, b6, p2, p3⟩
theorem pre_of (i : Inv TXm (CCg KX RX WX) (CMg SX) n h) : Sh h ∧ ∃ A, preQ KX RX WX SX n A h := by
  obtain ⟨hs, A, B0, B1, d, D, b1, b2, b3, b4, b5, b6, p2, p3⟩ := i
  exact ⟨hs, A, ⟨B0, B1, d, D, b1, b2, b3, b4, b5, b6⟩, p2, p3⟩
theorem preQ_less (p : preQ KX RX WX SX (n + 1) A h) : preQ KX RX WX SX n A h := by
  obtain ⟨p1, p2, ⟨v, c1, c2, c3, c4⟩, ⟨g, c5, c6⟩, c7⟩ := p
  exact ⟨p1, p2, ⟨v, c1, by omega, c3, c4⟩, ⟨g, c5, by omega⟩, c7⟩
theorem inv_less (hs : Sh h) (p : preQ KX RX WX SX (n + 1) A h) : Inv TXm (CCg KX RX WX) (CMg SX) n h := inv_of hs (preQ_less p)
/-- behind the class's run -/
theorem preQ_lk {g' G : Nat} (hS : SXp SX) (p : preQ KX RX WX SX (n + 1) A h) (hG : (ah_l h 38 7).toInt = G) (f : loF h g) (hg : g' ≤ G + 1) (l : lkO KX RX WX g' A g) : preQ KX RX WX SX n A g := by
  obtain ⟨p1, p2, ⟨v, c1, c2, c3, c4⟩, ⟨g0, c5, c6⟩, c7, c8, c9, c10⟩ := p
  have e82 := (f.2.2.1 82 (by omega)).1
  have eg : g0 = G := by rw [hG] at c5; omega
  exact ⟨bsO_q (qF_lo f) p1, lkO_cc l, ⟨v, by rw [e82]; exact c1, by omega, by rw [e82]; exact c3, by rw [e82]; exact c4⟩, ⟨g', l.1.2.1.1.2.2.2.1, by omega⟩, fun j hj => by rw [(f.2.2.1 87 (by omega)).1]; exact c7 j hj, mKn_e (fun a ha => (f.2.2.1 a (by omega)).1) (e82 29) (e82 1) c8, mNg_e (fun a ha => (f.2.2.1 a (by omega)).1) (e82 49) (e82 1) c9, hS.1 _ _ _ (fun j _ => e82 j) c10⟩
/-- behind the model's run -/
theorem inv_md (X : XP KX RX WX) (hW : ∀ A h, KX h → RX A h → A 245 ≤ 20 ∧ A 246 ≤ 10) (hS : SXp SX) (p : preQ KX RX WX SX n A h) (f : mdF h g) (k : mKn A g) (ng : mNg A g) (k49 : ah_i g 82 49 = ah_i h 82 49 ∨ ah_i g 82 49 = ah_i h 82 1 ∨ ah_i g 82 49 = -1) : Inv TXm (CCg KX RX WX) (CMg SX) n g := by
  obtain ⟨p1, p2, ⟨v, c1, c2, c3, c4⟩, ⟨g0, c5, c6⟩, c7, c8, c9, c10⟩ := p
  refine inv_of f.1 ⟨bsO_q (qF_md f) p1, (CCg_p X hW).1 _ _ _ p2 (agC_of (fun a h1 h2 => f.2.2.1 a (by omega)) (fun a h1 h2 => f.2.2.1 a (by omega)) (Nat.le_of_eq f.2.1.symm)) ((f.2.2.1 0 (by omega)).1 18) ((f.2.2.1 0 (by omega)).1 19), ⟨v, by rw [f.2.2.2 1 (by omega)]; exact c1, c2, ?_, by rw [f.2.2.2 62 (by omega)]; exact c4⟩, ⟨g0, by rw [(f.2.2.1 38 (by omega)).2.1]; exact c5, c6⟩, fun j hj => by rw [(f.2.2.1 87 (by omega)).1]; exact c7 j hj, k, ng, hS.1 _ _ _ (fun j hj => f.2.2.2 j (by omega)) c10⟩
  rcases k49 with e | e | e
  · rw [e]; exact c3
  · rw [e, c1, nI_toInt (by omega)]; omega
  · rw [e]
    show (-1 : Int) ≤ v
    omega
end QU
