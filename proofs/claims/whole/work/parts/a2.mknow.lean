/-! ===== the model's questions, kept as long as nothing is told ===== -/
/-- the law in force -/
def lawL (A : Nat → Nat) : Option (List Cl) := if A 252 = 0 then none else some (lwR (fun k => A (260 + 400 * (A 252 - 1) + k)) (fun k => A (3060 + 400 * (A 252 - 1) + k)) (A (253 + (A 252 - 1)))).2.2.2
def shS9 (A : Nat → Nat) (l k o ne la mi : Nat) : Bool := ansS (lawL A) (wQ l k o ((ne : Int) - 1) la mi (A 242) (A 244))
/-- l is the lamp and one, 0 a lantern -/
def rchA (A : Nat → Nat) (l k mi : Nat) : Nat := (ansN (lawL A) 1 (wQ ((l : Int) - 1) k (-1) (-1) (-1) mi (A 242) (A 244))).toNat
def drkA (A : Nat → Nat) (l k mi : Nat) : Nat := (ansN (lawL A) 2 (wQ l k (-1) (-1) (-1) mi (A 242) (A 244))).toNat
theorem ansN_in (L : Option (List Cl)) (what : Nat) (w : Nat → Int) : 0 ≤ ansN L what w ∧ ansN L what w ≤ 9 := by
  unfold ansN
  cases L with
  | none => exact ⟨(by decide : (0 : Int) ≤ 1), (by decide : (1 : Int) ≤ 9)⟩
  | some cls => exact tell9_in what w cls 1 (by decide) (by decide)
theorem rchA_le (A : Nat → Nat) (l k mi : Nat) : rchA A l k mi ≤ 9 := by have := ansN_in (lawL A) 1 (wQ ((l : Int) - 1) k (-1) (-1) (-1) mi (A 242) (A 244)); unfold rchA; omega
theorem drkA_le (A : Nat → Nat) (l k mi : Nat) : drkA A l k mi ≤ 9 := by have := ansN_in (lawL A) 2 (wQ l k (-1) (-1) (-1) mi (A 242) (A 244)); unfold drkA; omega
/-- the model's row, as far as its law goes -/
def mLw (A : Nat → Nat) (h : ah_T) : Prop := ah_i h 84 252 = nO (A 252) ∧ A 252 ≤ A 251 ∧ A 251 ≤ 6 ∧ ah_i h 84 242 = nI (A 242) ∧ ah_i h 84 244 = nI (A 244) ∧ A 242 ≤ 9 ∧ A 244 ≤ 9 ∧
  ∀ t, t < A 251 → ah_i h 84 (253 + t) = nI (A (253 + t)) ∧ A (253 + t) ≤ 400 ∧ (∀ k, k < A (253 + t) → ah_i h 84 (260 + 400 * t + k) = nI (A (260 + 400 * t + k)) ∧ ah_i h 84 (3060 + 400 * t + k) = nI (A (3060 + 400 * t + k)) ∧ A (260 + 400 * t + k) < 400 ∧ A (3060 + 400 * t + k) < 2 ^ 31) ∧ (lwR (fun k => A (260 + 400 * t + k)) (fun k => A (3060 + 400 * t + k)) (A (253 + t))).1 = true
theorem mLw_of {A : Nat → Nat} {h : ah_T} (wf : WF A) (tn : Tn TXm A h 1 84 0) : mLw A h := by
  obtain ⟨w1, w2, w3⟩ := wf.2.2.2.2.2.2.2
  obtain ⟨v1, v2, v3, v4⟩ := wf.2.2.2.2.2.2.1
  obtain ⟨r1, r2, r3, r4, r5, _⟩ := tn.2.2.2.2.2.2.2
  have q0 := tn.2.2.2.2.2.2.1 0 (by omega)
  have q2 := tn.2.2.2.2.2.2.1 2 (by omega)
  simp only [Nat.zero_add] at r3 r4 r5 q0 q2
  refine ⟨r4, w2, w1, q0.2, q2.2, v1, v4, fun t ht => ?_⟩
  obtain ⟨s1, s2, x, s3, s4⟩ := r5 t ht
  obtain ⟨u1, u2⟩ := w3 t ht
  exact ⟨s1, u1, fun k hk => ⟨(s2 k hk).1, (s2 k hk).2, (u2 k hk).1, (u2 k hk).2⟩, s4.1⟩
theorem mLw_fr {A : Nat → Nat} {h h' : ah_T} (e : ∀ j, ah_i h' 84 j = ah_i h 84 j) (m : mLw A h) : mLw A h' := by
  unfold mLw at m ⊢
  simp only [e]
  exact m
section MK
variable {A : Nat → Nat} {h : ah_T}
/-- words asked -/
def wA (w : Nat → Int) (h : ah_T) : Prop := ∀ k, k < 8 → (ah_i h 93 k).toInt = w k ∧ -1000000000 ≤ w k ∧ w k ≤ 1000000000
theorem mt_asks {Q : Option Value → ah_T → Prop} (m : mLw A h) (hs : Sh h) {w : Nat → Int} {hd d0 : Nat} {x1 x2 : Int32} (hh : 1 ≤ hd ∧ hd ≤ 3) (hd1 : d0 ≤ 1) (ww : wA w h) (ex : x1 = nI hd) (ey : x2 = nI d0)
    (hq : ∀ h' v, tlF h h' → v = nI (match lawL A with | none => (d0 : Int) | some cls => tell9 (hd - 1) w cls d0).toNat → Q (some (.int v)) h') : Mt mX12_tells [.ref 82, .int x1, .int x2] h Q := by
  subst ex ey
  obtain ⟨m1, m2, m3, m4, m5, m6, m7, m8⟩ := m
  refine T_X12_tells hs _ _ ?_
  rw [cl_252, m1]
  by_cases c0 : A 252 = 0
  · have e : nO (A 252) = -1 := by rw [c0]; rfl
    (first | refine ⟨fun _ => ?_, fun n_ => absurd (e) n_⟩ | refine ⟨fun n_ => absurd (e) n_, fun _ => ?_⟩ | refine ⟨fun y_ => absurd y_ (e), fun _ => ?_⟩ | refine ⟨fun _ => ?_, fun y_ => absurd y_ (e)⟩)
    refine hq h _ (tlF_r hs) ?_
    unfold lawL
    rw [if_pos c0]
    rfl
  · obtain ⟨f, ef⟩ : ∃ f, A 252 = f + 1 := ⟨A 252 - 1, by omega⟩
    rw [ef, nO_s]
    (first | refine ⟨fun _ => ?_, fun n_ => absurd (nI_m1 (show f < 2 ^ 31 by omega)) n_⟩ | refine ⟨fun n_ => absurd (nI_m1 (show f < 2 ^ 31 by omega)) n_, fun _ => ?_⟩ | refine ⟨fun y_ => absurd y_ (nI_m1 (show f < 2 ^ 31 by omega)), fun _ => ?_⟩ | refine ⟨fun _ => ?_, fun y_ => absurd y_ (nI_m1 (show f < 2 ^ 31 by omega))⟩)
    obtain ⟨n1, n2, n3, n4⟩ := m8 f (by omega)
    rintro h2 rfl
    rw [ah_i_sn (show ¬ ((84 : Nat) = 82 ∧ 252 = 23) by omega), m1, ef, nO_s, n_400, nI_mul]
    rintro h5 rfl
    rw [ah_i_sn (show ¬ ((84 : Nat) = 82 ∧ 252 = 20) by omega), ah_i_sn (show ¬ ((84 : Nat) = 82 ∧ 252 = 23) by omega), m1, ef, nO_s, n_253, nI_add, nI_clamp (show 253 + f < 2 ^ 31 by omega), ah_i_sn (show ¬ ((84 : Nat) = 82 ∧ 253 + f = 20) by omega), ah_i_sn (show ¬ ((84 : Nat) = 82 ∧ 253 + f = 23) by omega), n1, ah_i_ss, nI_add, n84 (sh_si (sh_si hs))]
    refine ⟨(vp_nI (by omega)).mpr (by omega), ?_⟩
    rintro h9 rfl
    have fr := tlF_si (j := 21) (x := nI (400 * f + A (253 + f))) (tlF_si (j := 20) (x := nI (400 * f)) (tlF_si (j := 23) (x := 0) (tlF_r hs) (by omega)) (by omega)) (by omega)
    obtain ⟨cs, ecs⟩ : ∃ cs, cs = trn (A (253 + f)) (fun k => A (260 + 400 * f + k)) := ⟨_, rfl⟩
    obtain ⟨vs, evs⟩ : ∃ vs, vs = trn (A (253 + f)) (fun k => A (3060 + 400 * f + k)) := ⟨_, rfl⟩
    have ci : ∀ k, k < A (253 + f) → cs k = A (260 + 400 * f + k) ∧ vs k = A (3060 + 400 * f + k) := fun k hk => by
      rw [ecs, evs]; unfold trn; rw [if_pos hk, if_pos hk]; exact ⟨rfl, rfl⟩
    have cg : ∀ k, A (253 + f) ≤ k → cs k = 0 ∧ vs k = 0 := fun k hk => by
      rw [ecs, evs]; unfold trn; rw [if_neg (by omega), if_neg (by omega)]; exact ⟨rfl, rfl⟩
    obtain ⟨g1, g2⟩ := lwR_L n4
    have el : lawL A = some (lwR (fun k => A (260 + 400 * f + k)) (fun k => A (3060 + 400 * f + k)) (A (253 + f))).2.2.2 := by
      unfold lawL
      rw [if_neg c0, show A 252 - 1 = f by omega]
    have wi : ∀ c, isL c = true → 8 ≤ c ∧ c ≤ 15 := fun c hc => of_decide_eq_true hc
    have t : Lx cs vs isL (A (253 + f)) (400 * f) w (ah_si (ah_si (ah_si h 82 23 0) 82 20 (nI (400 * f))) 82 21 (nI (400 * f + A (253 + f)))) := by
      refine ⟨n2, (cg _ (Nat.le_refl _)).1, isVof_0 false, by omega, ah_i_ss, fun k hk => ?_, fun k hk => ?_, fun c hc => ?_, .inl ⟨by rw [ah_i_sn (by omega), ah_i_sn (by omega), ah_i_ss], fun c hc => ?_⟩⟩
      · rw [ah_i_sn (by omega), ah_i_sn (by omega), ah_i_sn (by omega), ah_i_sn (by omega), ah_i_sn (by omega), ah_i_sn (by omega), (ci k hk).1, (ci k hk).2, show 260 + (400 * f + k) = 260 + 400 * f + k by omega, show 3060 + (400 * f + k) = 3060 + 400 * f + k by omega]
        exact ⟨(n3 k hk).1, (n3 k hk).2.1⟩
      · rcases Nat.lt_or_ge k (A (253 + f)) with z | z
        · rw [(ci k z).1, (ci k z).2]
          exact ⟨(n3 k z).2.2.1, (n3 k z).2.2.2⟩
        · rw [(cg k z).1, (cg k z).2]
          omega
      · have := wi c hc
        exact ⟨by omega, by omega, (ww (c - 8) (by omega)).2⟩
      · have := wi c hc
        refine ⟨this.1, this.2, ?_⟩
        rw [ah_i_sn (by omega), ah_i_sn (by omega), ah_i_sn (by omega)]
        exact (ww (c - 8) (by omega)).1
    have ev : ((nI d0).toInt64).toInt = d0 := by rw [Int32.toInt_toInt64, nI_toInt (by omega)]
    rw [← ecs, ← evs] at g1
    have pt : (pTx cs (A (253 + f)) (pLaw cs vs isL) 12 [] 0 0).1 = true := by rw [ecs, evs]; exact n4
    refine m_tells_loop (R := tell9 (hd - 1) w (pTl cs (pLaw cs vs isL) 12 0 0) d0) hh (fun h' fr' => hq h' _ (tlF_t fr fr') ?_) 12 0 0 [] d0 _ _ pt (Nat.zero_le _) (by omega) (tlF_r fr.1) t (by rw [ah_i_sn (by omega), ah_i_ss]; rfl) ev (by omega) (by omega) rfl
    rw [el, g1]
theorem m_sets {Q : Option Value → ah_T → Prop} (hs : Sh h) (e242 : ah_i h 84 242 = nI (A 242)) (e244 : ah_i h 84 244 = nI (A 244)) (v1 : A 242 ≤ 9) (v2 : A 244 ≤ 9) {x1 x2 x3 x4 x5 x6 : Int32} {l k o ne la mi : Int} (e1 : x1.toInt = l) (e2 : x2.toInt = k) (e3 : x3.toInt = o) (e4 : x4.toInt = ne) (e5 : x5.toInt = la) (e6 : x6.toInt = mi)
    (bd : (-1000 ≤ l ∧ l ≤ 1000) ∧ (-1000 ≤ k ∧ k ≤ 1000) ∧ (-1000 ≤ o ∧ o ≤ 1000) ∧ (-1000 ≤ ne ∧ ne ≤ 1000) ∧ (-1000 ≤ la ∧ la ≤ 1000) ∧ (-1000 ≤ mi ∧ mi ≤ 1000))
    (hq : ∀ h', Sh h' → ah_x h' = ah_x h → (∀ a, a ≠ 93 → eqc h h' a) → wA (wQ l k o ne la mi (A 242) (A 244)) h' → Q none h') : Mt mX12_sets [.ref 82, .int x1, .int x2, .int x3, .int x4, .int x5, .int x6] h Q := by
  refine T_X12_sets hs _ _ _ _ _ _ ?_
  have z0 : Int32.toNatClampNeg 0 = 0 := rfl
  have z1 : Int32.toNatClampNeg 1 = 1 := rfl
  have z2 : Int32.toNatClampNeg 2 = 2 := rfl
  have z3 : Int32.toNatClampNeg 3 = 3 := rfl
  have z4 : Int32.toNatClampNeg 4 = 4 := rfl
  have z5 : Int32.toNatClampNeg 5 = 5 := rfl
  have z6 : Int32.toNatClampNeg 6 = 6 := rfl
  have z7 : Int32.toNatClampNeg 7 = 7 := rfl
  have z8 : Int32.toNatClampNeg 242 = 242 := rfl
  have z9 : Int32.toNatClampNeg 244 = 244 := rfl
  rw [z0, z1, z2, z3, z4, z5, z6, z7, z8, z9]
  intro h1 q1 h4 q2 h7 q3 h10 q4 h13 q5 h16 q6 h19 q7 u q8
  have a1 : ah_i h16 84 242 = nI (A 242) := by rw [q6, ah_i_sn (by omega), q5, ah_i_sn (by omega), q4, ah_i_sn (by omega), q3, ah_i_sn (by omega), q2, ah_i_sn (by omega), q1, ah_i_sn (by omega)]; exact e242
  have a2 : ah_i h19 84 244 = nI (A 244) := by rw [q7, ah_i_sn (by omega), q6, ah_i_sn (by omega), q5, ah_i_sn (by omega), q4, ah_i_sn (by omega), q3, ah_i_sn (by omega), q2, ah_i_sn (by omega), q1, ah_i_sn (by omega)]; exact e244
  rw [a1] at q7
  rw [a2] at q8
  have us : Sh u := by rw [q8, q7, q6, q5, q4, q3, q2, q1]; exact sh_si (sh_si (sh_si (sh_si (sh_si (sh_si (sh_si (sh_si hs)))))))
  have ux : ah_x u = ah_x h := by rw [q8, q7, q6, q5, q4, q3, q2, q1]; rfl
  have ue : ∀ a, a ≠ 93 → eqc h u a := fun a n1 => by rw [q8, q7, q6, q5, q4, q3, q2, q1]; exact eqc_si (eqc_si (eqc_si (eqc_si (eqc_si (eqc_si (eqc_si (eqc_si eqc_rfl n1) n1) n1) n1) n1) n1) n1) n1
  have ui : ∀ j, ah_i u 93 j = if j = 7 then nI (A 244) else if j = 6 then nI (A 242) else if j = 5 then x6 else if j = 4 then x5 else if j = 3 then x4 else if j = 2 then x3 else if j = 1 then x2 else if j = 0 then x1 else ah_i h 93 j := fun j => by
    rw [q8, ah_i_si, q7, ah_i_si, q6, ah_i_si, q5, ah_i_si, q4, ah_i_si, q3, ah_i_si, q2, ah_i_si, q1, ah_i_si]
    simp only [true_and]
  refine hq u us ux ue (fun j hj => ?_)
  rw [ui]
  unfold wQ
  rcases (show j = 0 ∨ j = 1 ∨ j = 2 ∨ j = 3 ∨ j = 4 ∨ j = 5 ∨ j = 6 ∨ j = 7 by omega) with y | y | y | y | y | y | y | y <;> subst y
  · exact ⟨e1, by omega, by omega⟩
  · exact ⟨e2, by omega, by omega⟩
  · exact ⟨e3, by omega, by omega⟩
  · exact ⟨e4, by omega, by omega⟩
  · exact ⟨e5, by omega, by omega⟩
  · exact ⟨e6, by omega, by omega⟩
  · refine ⟨(nI_toInt (n := A 242) (by omega)), ?_, ?_⟩
    · show -1000000000 ≤ ((A 242 : Nat) : Int); omega
    · show ((A 242 : Nat) : Int) ≤ 1000000000; omega
  · refine ⟨(nI_toInt (n := A 244) (by omega)), ?_, ?_⟩
    · show -1000000000 ≤ ((A 244 : Nat) : Int); omega
    · show ((A 244 : Nat) : Int) ≤ 1000000000; omega
end MK
/-! ## what is kept -/
def ixS (l k o ne la mi : Nat) : Nat := ((((l * 6 + k) * 6 + o) * 13 + ne) * 2 + la) * 120 + mi
def ixR (l k mi : Nat) : Nat := (l * 6 + k) * 120 + mi
/-- what the model keeps is so -/
def memS (A : Nat → Nat) (h : ah_T) : Prop := ∀ l k o ne la mi, l < 10 → k < 6 → o < 6 → ne < 13 → la < 2 → mi < 120 → ah_i h 95 (ixS l k o ne la mi) = 0 ∨ ah_i h 95 (ixS l k o ne la mi) = nI (if shS9 A l k o ne la mi then 2 else 1)
def memR (A : Nat → Nat) (h : ah_T) : Prop := ∀ l k mi, l < 11 → k < 6 → mi < 120 → ah_i h 96 (ixR l k mi) = 0 ∨ ah_i h 96 (ixR l k mi) = nI (1 + rchA A l k mi)
def memD (A : Nat → Nat) (h : ah_T) : Prop := ∀ l k mi, l < 10 → k < 6 → mi < 120 → ah_i h 97 (ixR l k mi) = 0 ∨ ah_i h 97 (ixR l k mi) = nI (1 + drkA A l k mi)
/-- what is kept is not of later -/
def kvO (h : ah_T) : Prop := (ah_i h 82 29).toInt ≤ (ah_i h 82 1).toInt
def mKn (A : Nat → Nat) (h : ah_T) : Prop := kvO h ∧ (ah_i h 82 29 = ah_i h 82 1 → memS A h ∧ memR A h ∧ memD A h)
/-- the model's cells while it asks and keeps -/
def knF (h h' : ah_T) : Prop := Sh h' ∧ ah_x h' = ah_x h ∧ (∀ a, a ≠ 82 → a ≠ 93 → a ≠ 95 → a ≠ 96 → a ≠ 97 → eqc h h' a) ∧ ∀ j, j ≠ 20 → j ≠ 21 → j ≠ 22 → j ≠ 23 → j ≠ 29 → ah_i h' 82 j = ah_i h 82 j
theorem knF_r {h : ah_T} (hs : Sh h) : knF h h := ⟨hs, rfl, fun _ _ _ _ _ _ => eqc_rfl, fun _ _ _ _ _ _ => rfl⟩
theorem knF_t {h h1 h2 : ah_T} (p : knF h h1) (q : knF h1 h2) : knF h h2 := ⟨q.1, by rw [q.2.1, p.2.1], fun a n1 n2 n3 n4 n5 => eqc_trans (p.2.2.1 a n1 n2 n3 n4 n5) (q.2.2.1 a n1 n2 n3 n4 n5), fun j a1 a2 a3 a4 a5 => by rw [q.2.2.2 j a1 a2 a3 a4 a5, p.2.2.2 j a1 a2 a3 a4 a5]⟩
theorem ixS_inj {l k o ne la mi l' k' o' ne' la' mi' : Nat} (h1 : k < 6) (h2 : o < 6) (h3 : ne < 13) (h4 : la < 2) (h5 : mi < 120) (h1' : k' < 6) (h2' : o' < 6) (h3' : ne' < 13) (h4' : la' < 2) (h5' : mi' < 120) (e : ixS l k o ne la mi = ixS l' k' o' ne' la' mi') : l = l' ∧ k = k' ∧ o = o' ∧ ne = ne' ∧ la = la' ∧ mi = mi' := by
  unfold ixS at e
  have a1 : mi = mi' ∧ (((l * 6 + k) * 6 + o) * 13 + ne) * 2 + la = (((l' * 6 + k') * 6 + o') * 13 + ne') * 2 + la' := by omega
  have a2 : la = la' ∧ ((l * 6 + k) * 6 + o) * 13 + ne = ((l' * 6 + k') * 6 + o') * 13 + ne' := by omega
  have a3 : ne = ne' ∧ (l * 6 + k) * 6 + o = (l' * 6 + k') * 6 + o' := by omega
  omega
theorem ixR_inj {l k mi l' k' mi' : Nat} (h1 : k < 6) (h5 : mi < 120) (h1' : k' < 6) (h5' : mi' < 120) (e : ixR l k mi = ixR l' k' mi') : l = l' ∧ k = k' ∧ mi = mi' := by
  unfold ixR at e
  omega
