/-! ===== behind both constructors: the two hold the same town, nothing is kept ===== -/
def A0s : Nat → Nat := fun j => if j = 243 then 3 else 0
section DN
variable {L : List cD} {a : Nat} {c : cD}
theorem dn_i (e : L[a]? = some c) (j : Nat) : ah_i (dn L) a j = lkD 0 c.2.2.1 j := by
  show (match L[a]? with | some c => lkD 0 c.2.2.1 j | none => 0) = _
  rw [e]
theorem dn_l (e : L[a]? = some c) (j : Nat) : ah_l (dn L) a j = lkD 0 c.2.2.2.2 j := by
  show (match L[a]? with | some c => lkD 0 c.2.2.2.2 j | none => 0) = _
  rw [e]
theorem dn_r (e : L[a]? = some c) (j : Nat) : ah_r (dn L) a j = lkD none c.2.2.2.1 j := by
  show (match L[a]? with | some c => lkD none c.2.2.2.1 j | none => none) = _
  rw [e]
end DN
set_option maxRecDepth 100000 in
theorem iv_Sh : Sh (dn kM) := by
  have h1 : ∀ a, a < 123 → ah_k (dn kM) a = sh_K a ∧ (12 < sh_K a → ah_n (dn kM) a = sh_N a) := by decide +kernel
  have h2 : ∀ q ∈ sh_R, ah_r (dn kM) q.1 q.2.1 = some q.2.2 := by decide +kernel
  exact ⟨h1, h2, by decide +kernel⟩
theorem iv_WF : WF A0s := by
  refine ⟨⟨by decide, fun w h => iv_no w h, fun w v h => iv_no w h⟩, ⟨by decide, fun w h => iv_no w h⟩, ⟨by decide, fun w h => iv_no w h⟩, ⟨by decide, fun w h => iv_no w h⟩, ⟨by decide, fun w h => iv_no w h⟩, ⟨by decide, fun w h => iv_no w h⟩, ⟨by decide, by decide, by decide, by decide⟩, ⟨by decide, by decide, fun w h => iv_no w h⟩⟩
theorem iv_cp3 {t room many base : Nat} (z : A0s many = 0) (e1 : ah_i (dn kM) t 0 = nI room) (e2 : ah_i (dn kM) t 1 = nI 3) (e3 : ah_i (dn kM) t 3 = nI 0) (e4 : ah_i (dn kM) 84 (0 + many) = nI 0) : cp3 A0s (dn kM) t 84 0 room many base := by
  unfold cp3
  rw [z]
  exact ⟨e1, e2, e3, e4, Nat.zero_le _, fun j hj => iv_no j (by omega)⟩
set_option maxRecDepth 100000 in
theorem iv_Tn : Tn TXm A0s (dn kM) 1 84 0 := by
  refine ⟨iv_cp3 (by decide) (by decide +kernel) (by decide +kernel) (by decide +kernel) (by decide +kernel), iv_cp3 (by decide) (by decide +kernel) (by decide +kernel) (by decide +kernel) (by decide +kernel), iv_cp3 (by decide) (by decide +kernel) (by decide +kernel) (by decide +kernel) (by decide +kernel), ?_, iv_cp3 (by decide) (by decide +kernel) (by decide +kernel) (by decide +kernel) (by decide +kernel), iv_cp3 (by decide) (by decide +kernel) (by decide +kernel) (by decide +kernel) (by decide +kernel), ?_, ?_⟩
  · unfold cpL
    rw [show A0s 248 = 0 by decide]
    exact ⟨by decide +kernel, by decide +kernel, by decide +kernel, by decide +kernel, fun l hl => iv_no l hl⟩
  · have : ∀ j, j < 3 → ah_i (dn kM) (1 + 13) j = nI (A0s (242 + j)) ∧ ah_i (dn kM) 84 (0 + (242 + j)) = nI (A0s (242 + j)) := by decide +kernel
    exact this
  · unfold cpW
    rw [show A0s 251 = 0 by decide, show A0s 252 = 0 by decide]
    refine ⟨by decide +kernel, by decide +kernel, by decide +kernel, by decide +kernel, fun t ht => iv_no t ht, fun t x e => ?_⟩
    rw [dn_r (c := (17, 6, [], [], [])) rfl] at e
    cases e
set_option maxRecDepth 100000 in
theorem iv_Im : Im TXm A0s A0s (dn kM) := by
  have e0 : ah_r (dn kM) 16 0 = none := by decide +kernel
  have e1 : ah_r (dn kM) 16 1 = none := by decide +kernel
  refine ⟨.inl ⟨by decide +kernel, e0⟩, .inl ⟨by decide +kernel, e1⟩, fun b e => ?_⟩
  rw [e0] at e
  cases e
set_option maxRecDepth 100000 in
theorem iv_Sc : Sc (dn kM) := by
  refine ⟨by decide +kernel, by decide +kernel, by decide +kernel, by decide +kernel, by decide +kernel, by decide +kernel, by decide +kernel, by decide +kernel, by decide +kernel⟩
set_option maxRecDepth 100000 in
theorem iv_Tp : Tp 0 (fun _ => 0) (dn kM) := by
  refine ⟨by decide, by decide +kernel, by decide +kernel, fun j hj => iv_no j hj⟩
set_option maxRecDepth 100000 in
theorem iv_Dr : Dr (dn kM) := .inl ⟨by decide +kernel, by decide +kernel⟩
set_option maxRecDepth 100000 in
theorem iv_CC : CCg KXc RXc WXc A0s (dn kM) := by
  have w : wB (dn kM) := by
    have : ∀ k, k < 13 → -1000000000 ≤ (ah_i (dn kM) 27 k).toInt ∧ (ah_i (dn kM) 27 k).toInt ≤ 1000000000 := by decide +kernel
    exact this
  have k : KXc (dn kM) := by
    refine ⟨fun b e => ?_, by decide +kernel, by decide +kernel⟩
    have e0 : ah_r (dn kM) 29 11 = none := by decide +kernel
    rw [e0] at e
    cases e
  have f1 : ¬ ah_i (dn kM) 0 18 = 0 := by decide +kernel
  have f2 : ¬ ah_i (dn kM) 0 19 = 0 := by decide +kernel
  refine ⟨w, k, by decide +kernel, .inr (.inr ⟨by decide +kernel, by decide +kernel⟩), ⟨none, 0, 0, 1, ⟨?_, by decide +kernel, by decide +kernel, by decide +kernel, by decide, by decide, fun p hp => ⟨0, ?_, by decide, fun cls x eL => by cases eL⟩⟩, fun z => absurd z f1, fun z => absurd z f2⟩, fun z => absurd z f1, fun z => absurd z f2⟩
  · have e0 : ah_r (dn kM) 38 3 = none := by decide +kernel
    exact e0
  · rw [dn_l (c := (15, 4096, [], [], [])) rfl]
    rfl
set_option maxRecDepth 100000 in
theorem iv_CM : CMg shX 513 A0s (dn kM) := by
  have e1 : ¬ ah_i (dn kM) 82 29 = ah_i (dn kM) 82 1 := by decide +kernel
  have e2 : ¬ ah_i (dn kM) 82 49 = ah_i (dn kM) 82 1 := by decide +kernel
  have e3 : ¬ ah_i (dn kM) 82 62 = ah_i (dn kM) 82 1 := by decide +kernel
  have e4 : ∀ j, j < mBy.length → ah_i (dn kM) 87 j = nI (mBy.getD j 0) := by decide +kernel
  have e5 : (ah_i (dn kM) 82 29).toInt ≤ (ah_i (dn kM) 82 1).toInt := by decide +kernel
  exact ⟨⟨0, by decide +kernel, by decide, by decide +kernel, by decide +kernel⟩, ⟨1, by decide +kernel, by decide⟩, e4, ⟨e5, fun z => absurd z e1⟩, fun z => absurd z e2, fun z => absurd z e3⟩
theorem iv_0 : IV 513 (dn kM) := ⟨iv_Sh, A0s, A0s, A0s, 0, fun _ => 0, iv_WF, iv_Tn, iv_Im, iv_Sc, iv_Tp, iv_Dr, iv_CC, iv_CM⟩
