/-! ===== the model's questions ===== -/
section MK
variable {A : Nat → Nat} {h : ah_T}
theorem nar0 : vp_nar .byte 0 = 0 := by decide +kernel
theorem narB : ∀ b, b ≤ 10 → vp_nar .byte ((nI b).toInt8.toInt32) = nI b := by decide +kernel
/-- what the model keeps is of now, and so -/
def mKw (A : Nat → Nat) (h : ah_T) : Prop := ah_i h 82 29 = ah_i h 82 1 ∧ memS A h ∧ memR A h ∧ memD A h
theorem m_knows {Q : Option Value → ah_T → Prop} (hs : Sh h) (k : mKn A h) (hq : ∀ h', knF h h' → mKw A h' → Q none h') : Mt mX12_knows [.ref 82] h Q := by
  refine T_X12_knows hs ⟨fun c => ?_, fun c => hq h (knF_r hs) ⟨c, k.2 c⟩⟩
  rintro h2 rfl
  have n95 : ∀ {h}, Sh h → ah_n h 95 = 1123200 := fun hs => sh_n hs 95 1123200 (by decide) (by decide) rfl
  have n96 : ∀ {h}, Sh h → ah_n h 96 = 7920 := fun hs => sh_n hs 96 7920 (by decide) (by decide) rfl
  have n97 : ∀ {h}, Sh h → ah_n h 97 = 7200 := fun hs => sh_n hs 97 7200 (by decide) (by decide) rfl
  have l3 : ∀ (q i : Nat) (g : ah_T), i + q = 7200 → knF h g → ah_i g 82 29 = ah_i g 82 1 → (∀ j, j < 1123200 → ah_i g 95 j = 0) → (∀ j, j < 7920 → ah_i g 96 j = 0) → (∀ j, j < i → ah_i g 97 j = 0) → Wp mX12_knows Q 0 0 65 [some (.ref 82), some (.int (nI i))] [] g := by
    intro q
    induction q with
    | zero =>
      intro i g hi fg e b1 b2 b3
      refine T_X12_knows_65 fg.1 _ ?_
      (first | refine ⟨fun _ => ?_, fun n_ => absurd (show 7200 ≤ nI i from nI_le (a := 7200) (by omega) (by omega)) n_⟩ | refine ⟨fun n_ => absurd (show 7200 ≤ nI i from nI_le (a := 7200) (by omega) (by omega)) n_, fun _ => ?_⟩ | refine ⟨fun y_ => absurd y_ (show 7200 ≤ nI i from nI_le (a := 7200) (by omega) (by omega)), fun _ => ?_⟩ | refine ⟨fun _ => ?_, fun y_ => absurd y_ (show 7200 ≤ nI i from nI_le (a := 7200) (by omega) (by omega))⟩)
      refine hq g fg ⟨e, fun l k o ne la mi a1 a2 a3 a4 a5 a6 => .inl (b1 _ (by unfold ixS; omega)), fun l k mi a1 a2 a3 => .inl (b2 _ (by unfold ixR; omega)), fun l k mi a1 a2 a3 => .inl (b3 _ (by unfold ixR; omega))⟩
    | succ q ih =>
      intro i g hi fg e b1 b2 b3
      refine T_X12_knows_65 fg.1 _ ?_
      (first | refine ⟨fun _ => ?_, fun n_ => absurd (show ¬ 7200 ≤ nI i from nI_ge (b := 7200) (by omega) (by omega)) n_⟩ | refine ⟨fun n_ => absurd (show ¬ 7200 ≤ nI i from nI_ge (b := 7200) (by omega) (by omega)) n_, fun _ => ?_⟩ | refine ⟨fun y_ => absurd y_ (show ¬ 7200 ≤ nI i from nI_ge (b := 7200) (by omega) (by omega)), fun _ => ?_⟩ | refine ⟨fun _ => ?_, fun y_ => absurd y_ (show ¬ 7200 ≤ nI i from nI_ge (b := 7200) (by omega) (by omega))⟩)
      rw [n97 fg.1, nI_clamp (by omega), nI_1, nar0]
      refine ⟨(vp_nI (by omega)).mpr (by omega), ?_⟩
      rintro h17 rfl
      refine ih (i + 1) _ (by omega) ⟨sh_si fg.1, by rw [ah_x_si, fg.2.1], fun a n1 n2 n3 n4 n5 => eqc_si (fg.2.2.1 a n1 n2 n3 n4 n5) n5, fun j a1 a2 a3 a4 a5 => by rw [ah_i_sn (by omega)]; exact fg.2.2.2 j a1 a2 a3 a4 a5⟩ (by rw [ah_i_sn (by omega), ah_i_sn (by omega)]; exact e) (fun j hj => by rw [ah_i_sn (by omega)]; exact b1 j hj) (fun j hj => by rw [ah_i_sn (by omega)]; exact b2 j hj) (fun j hj => ?_)
      rw [ah_i_si]
      by_cases z : j = i
      · rw [if_pos ⟨rfl, z⟩]
      · rw [if_neg (fun y => z y.2)]; exact b3 j (by omega)
  have l2 : ∀ (q i : Nat) (g : ah_T), i + q = 7920 → knF h g → ah_i g 82 29 = ah_i g 82 1 → (∀ j, j < 1123200 → ah_i g 95 j = 0) → (∀ j, j < i → ah_i g 96 j = 0) → Wp mX12_knows Q 0 0 43 [some (.ref 82), some (.int (nI i))] [] g := by
    intro q
    induction q with
    | zero =>
      intro i g hi fg e b1 b2
      refine T_X12_knows_43 fg.1 _ ?_
      (first | refine ⟨fun _ => ?_, fun n_ => absurd (show 7920 ≤ nI i from nI_le (a := 7920) (by omega) (by omega)) n_⟩ | refine ⟨fun n_ => absurd (show 7920 ≤ nI i from nI_le (a := 7920) (by omega) (by omega)) n_, fun _ => ?_⟩ | refine ⟨fun y_ => absurd y_ (show 7920 ≤ nI i from nI_le (a := 7920) (by omega) (by omega)), fun _ => ?_⟩ | refine ⟨fun _ => ?_, fun y_ => absurd y_ (show 7920 ≤ nI i from nI_le (a := 7920) (by omega) (by omega))⟩)
      exact l3 7200 0 g (by omega) fg e b1 (fun j hj => b2 j (by omega)) (fun j hj => by omega)
    | succ q ih =>
      intro i g hi fg e b1 b2
      refine T_X12_knows_43 fg.1 _ ?_
      (first | refine ⟨fun _ => ?_, fun n_ => absurd (show ¬ 7920 ≤ nI i from nI_ge (b := 7920) (by omega) (by omega)) n_⟩ | refine ⟨fun n_ => absurd (show ¬ 7920 ≤ nI i from nI_ge (b := 7920) (by omega) (by omega)) n_, fun _ => ?_⟩ | refine ⟨fun y_ => absurd y_ (show ¬ 7920 ≤ nI i from nI_ge (b := 7920) (by omega) (by omega)), fun _ => ?_⟩ | refine ⟨fun _ => ?_, fun y_ => absurd y_ (show ¬ 7920 ≤ nI i from nI_ge (b := 7920) (by omega) (by omega))⟩)
      rw [n96 fg.1, nI_clamp (by omega), nI_1, nar0]
      refine ⟨(vp_nI (by omega)).mpr (by omega), ?_⟩
      rintro h12 rfl
      refine ih (i + 1) _ (by omega) ⟨sh_si fg.1, by rw [ah_x_si, fg.2.1], fun a n1 n2 n3 n4 n5 => eqc_si (fg.2.2.1 a n1 n2 n3 n4 n5) n4, fun j a1 a2 a3 a4 a5 => by rw [ah_i_sn (by omega)]; exact fg.2.2.2 j a1 a2 a3 a4 a5⟩ (by rw [ah_i_sn (by omega), ah_i_sn (by omega)]; exact e) (fun j hj => by rw [ah_i_sn (by omega)]; exact b1 j hj) (fun j hj => ?_)
      rw [ah_i_si]
      by_cases z : j = i
      · rw [if_pos ⟨rfl, z⟩]
      · rw [if_neg (fun y => z y.2)]; exact b2 j (by omega)
  have l1 : ∀ (q i : Nat) (g : ah_T), i + q = 1123200 → knF h g → ah_i g 82 29 = ah_i g 82 1 → (∀ j, j < i → ah_i g 95 j = 0) → Wp mX12_knows Q 0 0 22 [some (.ref 82), some (.int (nI i))] [] g := by
    intro q
    induction q with
    | zero =>
      intro i g hi fg e b1
      refine T_X12_knows_22 fg.1 _ ?_
      (first | refine ⟨fun _ => ?_, fun n_ => absurd (show 1123200 ≤ nI i from nI_le (a := 1123200) (by omega) (by omega)) n_⟩ | refine ⟨fun n_ => absurd (show 1123200 ≤ nI i from nI_le (a := 1123200) (by omega) (by omega)) n_, fun _ => ?_⟩ | refine ⟨fun y_ => absurd y_ (show 1123200 ≤ nI i from nI_le (a := 1123200) (by omega) (by omega)), fun _ => ?_⟩ | refine ⟨fun _ => ?_, fun y_ => absurd y_ (show 1123200 ≤ nI i from nI_le (a := 1123200) (by omega) (by omega))⟩)
      exact l2 7920 0 g (by omega) fg e (fun j hj => b1 j (by omega)) (fun j hj => by omega)
    | succ q ih =>
      intro i g hi fg e b1
      refine T_X12_knows_22 fg.1 _ ?_
      (first | refine ⟨fun _ => ?_, fun n_ => absurd (show ¬ 1123200 ≤ nI i from nI_ge (b := 1123200) (by omega) (by omega)) n_⟩ | refine ⟨fun n_ => absurd (show ¬ 1123200 ≤ nI i from nI_ge (b := 1123200) (by omega) (by omega)) n_, fun _ => ?_⟩ | refine ⟨fun y_ => absurd y_ (show ¬ 1123200 ≤ nI i from nI_ge (b := 1123200) (by omega) (by omega)), fun _ => ?_⟩ | refine ⟨fun _ => ?_, fun y_ => absurd y_ (show ¬ 1123200 ≤ nI i from nI_ge (b := 1123200) (by omega) (by omega))⟩)
      rw [n95 fg.1, nI_clamp (by omega), nI_1, nar0]
      refine ⟨(vp_nI (by omega)).mpr (by omega), ?_⟩
      rintro h7 rfl
      refine ih (i + 1) _ (by omega) ⟨sh_si fg.1, by rw [ah_x_si, fg.2.1], fun a n1 n2 n3 n4 n5 => eqc_si (fg.2.2.1 a n1 n2 n3 n4 n5) n3, fun j a1 a2 a3 a4 a5 => by rw [ah_i_sn (by omega)]; exact fg.2.2.2 j a1 a2 a3 a4 a5⟩ (by rw [ah_i_sn (by omega), ah_i_sn (by omega)]; exact e) (fun j hj => ?_)
      rw [ah_i_si]
      by_cases z : j = i
      · rw [if_pos ⟨rfl, z⟩]
      · rw [if_neg (fun y => z y.2)]; exact b1 j (by omega)
  exact l1 1123200 0 _ (by omega) ⟨sh_si hs, ah_x_si _ _ _ _, fun a n1 _ _ _ _ => eqc_si eqc_rfl n1, fun j _ _ _ _ a5 => by rw [ah_i_sn (by omega)]⟩ (by rw [ah_i_ss, ah_i_sn (by omega)]) (fun j hj => by omega)
theorem knF_tl {h1 h2 : ah_T} (p : knF h h1) (q : tlF h1 h2) : knF h h2 := ⟨q.1, by rw [q.2.1, p.2.1], fun a n1 n2 n3 n4 n5 => eqc_trans (p.2.2.1 a n1 n2 n3 n4 n5) (q.2.2.1 a n1), fun j a1 a2 a3 a4 a5 => by rw [q.2.2.2 j a1 a2 a3 a4, p.2.2.2 j a1 a2 a3 a4 a5]⟩
theorem mKw_fr {h1 : ah_T} (k : mKw A h) (e82 : ∀ j, (j = 1 ∨ j = 29) → ah_i h1 82 j = ah_i h 82 j) (e95 : ∀ j, ah_i h1 95 j = ah_i h 95 j) (e96 : ∀ j, ah_i h1 96 j = ah_i h 96 j) (e97 : ∀ j, ah_i h1 97 j = ah_i h 97 j) : mKw A h1 := by
  unfold mKw memS memR memD at k ⊢
  simp only [e95, e96, e97, e82 1 (.inl rfl), e82 29 (.inr rfl)]
  exact k
theorem mt_shuns {Q : Option Value → ah_T → Prop} (hs : Sh h) (m : mLw A h) (k : mKn A h) {l ki o ne la mi : Nat} {x1 x2 x3 x4 x5 x6 : Int32} (hl : l < 10) (hk : ki < 6) (ho : o < 6) (hn : ne < 13) (hla : la < 2) (hmi : mi < 120) (e1 : x1 = nI l) (e2 : x2 = nI ki) (e3 : x3 = nI o) (e4 : x4 = nO ne) (e5 : x5 = nI la) (e6 : x6 = nI mi)
    (hq : ∀ h', knF h h' → mKw A h' → Q (some (.int (bI (shS9 A l ki o ne la mi)))) h') : Mt mX12_doesShun [.ref 82, .int x1, .int x2, .int x3, .int x4, .int x5, .int x6] h Q := by
  subst e1 e2 e3 e4 e5 e6
  refine T_X12_doesShun hs _ _ _ _ _ _ (m_knows hs k (fun h1 f1 k1 => ⟨rfl, f1.1, ?_⟩))
  have ix : ((((((((((nI l * 6) + nI ki) * 6) + nI o) * 13) + nO ne) + 1) * 2) + nI la) * 120) + nI mi = nI (ixS l ki o ne la mi) := by
    have a : ((((nI l * 6) + nI ki) * 6 + nI o) * 13 + nO ne) + 1 = nI (((l * 6 + ki) * 6 + o) * 13 + ne) := by
      have b : (((nI l * 6) + nI ki) * 6 + nI o) * 13 = nI (((l * 6 + ki) * 6 + o) * 13) := by rw [n_6, n_13, nI_mul, nI_add, nI_mul, nI_add, nI_mul]
      rw [b]
      unfold nO
      rw [← nI_add]
      clear k1 f1 k m
      grind
    rw [a, n_2, n_120, nI_mul, nI_add, nI_mul, nI_add]
    rfl
  have hx : ixS l ki o ne la mi < 1123200 := by unfold ixS; omega
  have n95 : ∀ {h}, Sh h → ah_n h 95 = 1123200 := fun hs => sh_n hs 95 1123200 (by decide) (by decide) rfl
  have vp : vp_in (nI (ixS l ki o ne la mi)) 1123200 := (vp_nI (by omega)).mpr hx
  rw [ix, nI_clamp (show ixS l ki o ne la mi < 2 ^ 31 by omega), n95 f1.1]
  obtain ⟨p1, p2, p3, p4⟩ := k1
  refine ⟨vp, fun z => ⟨vp, fun z2 => ?_, fun z2 => ?_⟩, fun z => ?_⟩
  · rcases p2 l ki o ne la mi hl hk ho hn hla hmi with y | y
    · exact absurd y z
    · have : shS9 A l ki o ne la mi = false := by
        cases c : shS9 A l ki o ne la mi
        · rfl
        · rw [c] at y; exact absurd y z2
      have := hq h1 f1 ⟨p1, p2, p3, p4⟩
      rw [‹shS9 A l ki o ne la mi = false›] at this
      exact this
  · rcases p2 l ki o ne la mi hl hk ho hn hla hmi with y | y
    · exact absurd y z
    · have : shS9 A l ki o ne la mi = true := by
        cases c : shS9 A l ki o ne la mi
        · rw [c, z2] at y; exact absurd y (by decide)
        · rfl
      have := hq h1 f1 ⟨p1, p2, p3, p4⟩
      rw [‹shS9 A l ki o ne la mi = true›] at this
      exact this
  · have i84 := (f1.2.2.1 84 (by decide) (by decide) (by decide) (by decide) (by decide)).1
    have m1 := mLw_fr i84 m
    have ene : (nO ne).toInt = (ne : Int) - 1 := by
      cases ne with
      | zero => rfl
      | succ j => rw [nO_s, nI_toInt (by omega)]; omega
    refine m_sets f1.1 m1.2.2.2.1 m1.2.2.2.2.1 m1.2.2.2.2.2.1 m1.2.2.2.2.2.2.1 (nI_toInt (by omega)) (nI_toInt (by omega)) (nI_toInt (by omega)) ene (nI_toInt (by omega)) (nI_toInt (by omega)) (by omega) (fun h8 s8 x8 e8 w8 => ⟨rfl, s8, ?_⟩)
    have f8 : knF h h8 := knF_t f1 ⟨s8, x8, fun a _ n2 _ _ _ => e8 a n2, fun j _ _ _ _ _ => (e8 82 (by decide)).1 j⟩
    have m8 := mLw_fr (e8 84 (by decide)).1 m1
    -- it is kept
    have keep : ∀ (g : ah_T) (b : Nat), knF h g → mKw A g → b = (if shS9 A l ki o ne la mi then 2 else 1) → (vp_in (nI (ixS l ki o ne la mi)) (ah_n g 95)) ∧ (∀ h17, h17 = ah_si g 95 (ixS l ki o ne la mi) (vp_nar .byte ((nI b).toInt8.toInt32)) → (vp_in (nI (ixS l ki o ne la mi)) (ah_n h17 95)) ∧ ((¬ (ah_i h17 95 (ixS l ki o ne la mi)) = 2 → Q (some (.int 0)) h17) ∧ ((ah_i h17 95 (ixS l ki o ne la mi)) = 2 → Q (some (.int 1)) h17))) := by
      intro g b fg kg eb
      rw [n95 fg.1]
      refine ⟨vp, ?_⟩
      rintro h17 rfl
      rw [ah_n_si, n95 fg.1, ah_i_ss, narB b (by rw [eb]; split <;> omega)]
      have fg2 : knF h (ah_si g 95 (ixS l ki o ne la mi) (nI b)) := ⟨sh_si fg.1, by rw [ah_x_si, fg.2.1], fun a n1 n2 n3 n4 n5 => eqc_si (fg.2.2.1 a n1 n2 n3 n4 n5) n3, fun j a1 a2 a3 a4 a5 => by rw [ah_i_sn (by omega)]; exact fg.2.2.2 j a1 a2 a3 a4 a5⟩
      have kg2 : mKw A (ah_si g 95 (ixS l ki o ne la mi) (nI b)) := by
        obtain ⟨u1, u2, u3, u4⟩ := kg
        refine ⟨by rw [ah_i_sn (by omega), ah_i_sn (by omega)]; exact u1, fun l' k' o' ne' la' mi' a1 a2 a3 a4 a5 a6 => ?_, fun l' k' mi' a1 a2 a3 => by rw [ah_i_sn (by omega)]; exact u3 l' k' mi' a1 a2 a3, fun l' k' mi' a1 a2 a3 => by rw [ah_i_sn (by omega)]; exact u4 l' k' mi' a1 a2 a3⟩
        rw [ah_i_si]
        by_cases z : ixS l' k' o' ne' la' mi' = ixS l ki o ne la mi
        · obtain ⟨v1, v2, v3, v4, v5, v6⟩ := ixS_inj a2 a3 a4 a5 a6 hk ho hn hla hmi z
          subst v1 v2 v3 v4 v5 v6
          rw [if_pos ⟨rfl, rfl⟩, eb]
          exact .inr rfl
        · rw [if_neg (fun y => z y.2)]
          exact u2 l' k' o' ne' la' mi' a1 a2 a3 a4 a5 a6
      have hq2 := hq _ fg2 kg2
      refine ⟨vp, fun z => ?_, fun z => ?_⟩
      · cases c : shS9 A l ki o ne la mi
        · rw [c] at hq2; exact hq2
        · rw [c] at eb; subst eb; exact absurd rfl z
      · cases c : shS9 A l ki o ne la mi
        · rw [c] at eb; subst eb; exact absurd z (by decide)
        · rw [c] at hq2; exact hq2
    have k8 : mKw A h8 := mKw_fr ⟨p1, p2, p3, p4⟩ (fun j _ => (e8 82 (by decide)).1 j) (e8 95 (by decide)).1 (e8 96 (by decide)).1 (e8 97 (by decide)).1
    rw [cl_252]
    refine ⟨fun z2 => ?_, fun z2 => ?_⟩
    · refine mt_asks m8 s8 (w := wQ l ki o ((ne : Int) - 1) la mi (A 242) (A 244)) (hd := 1) (d0 := 0) ⟨by omega, by omega⟩ (by omega) w8 rfl rfl (fun h12 v t12 ev => ⟨v, rfl, t12.1, ?_⟩)
      have c0 : ¬ A 252 = 0 := fun y => z2 (by rw [m8.1, y]; rfl)
      obtain ⟨f, ef⟩ : ∃ f, A 252 = f + 1 := ⟨A 252 - 1, by omega⟩
      have hok := (m8.2.2.2.2.2.2.2 f (by have := m8.2.1; omega)).2.2.2
      have el : lawL A = some (lwR (fun k => A (260 + 400 * f + k)) (fun k => A (3060 + 400 * f + k)) (A (253 + f))).2.2.2 := by
        unfold lawL
        rw [if_neg c0, show A 252 - 1 = f by omega]
      have hcl := (lwR_L hok).2
      rw [el] at ev
      dsimp only at ev
      have es : shS9 A l ki o ne la mi = decide (tell9 0 (wQ l ki o ((ne : Int) - 1) la mi (A 242) (A 244)) (lwR (fun k => A (260 + 400 * f + k)) (fun k => A (3060 + 400 * f + k)) (A (253 + f))).2.2.2 0 = 1) := by
        unfold shS9 ansS
        rw [el]
      have k12 : mKw A h12 := mKw_fr k8 (fun j hj => t12.2.2.2 j (by omega) (by omega) (by omega) (by omega)) (t12.2.2.1 95 (by decide)).1 (t12.2.2.1 96 (by decide)).1 (t12.2.2.1 97 (by decide)).1
      have f12 := knF_tl f8 t12
      have t01 := tell9_0 (wQ l ki o ((ne : Int) - 1) la mi (A 242) (A 244)) (lwR (fun k => A (260 + 400 * f + k)) (fun k => A (3060 + 400 * f + k)) (A (253 + f))).2.2.2 0 hcl (.inl rfl)
      refine ⟨fun z3 => ?_, fun z3 => ?_⟩
      · refine keep h12 1 f12 k12 ?_
        rcases t01 with y | y
        · rw [es, y]; rfl
        · exfalso
          apply z3
          rw [ev]
          show nI (tell9 (1 - 1) _ _ 0).toNat = 1
          rw [show (1 : Nat) - 1 = 0 from rfl, y]
          rfl
      · refine keep h12 2 f12 k12 ?_
        rcases t01 with y | y
        · exfalso
          rw [ev] at z3
          have : nI (tell9 (1 - 1) (wQ l ki o ((ne : Int) - 1) la mi (A 242) (A 244)) (lwR (fun k => A (260 + 400 * f + k)) (fun k => A (3060 + 400 * f + k)) (A (253 + f))).2.2.2 ((0 : Nat) : Int)).toNat = nI 0 := by
            rw [show (1 : Nat) - 1 = 0 from rfl]
            show nI (tell9 0 _ _ 0).toNat = nI 0
            rw [y]
            rfl
          rw [this] at z3
          exact absurd z3 (by decide)
        · rw [es, y]; rfl
    · have c0 : A 252 = 0 := by
        rw [m8.1] at z2
        cases c : A 252 with
        | zero => rfl
        | succ f =>
          rw [c, nO_s] at z2
          have := m8.2.1
          have := m8.2.2.1
          exact absurd z2 (nI_m1 (by omega))
      have es : shS9 A l ki o ne la mi = decide (ki = o ∧ (ne = 1 ∨ ne = 2)) := by
        unfold shS9 ansS lawL
        rw [if_pos c0]
        show decide ((ki : Int) = (o : Int) ∧ ((ne : Int) - 1 = 0 ∨ (ne : Int) - 1 = 1)) = _
        congr 1
        apply propext
        constructor
        · rintro ⟨y1, y2⟩; exact ⟨by omega, by omega⟩
        · rintro ⟨y1, y2⟩; exact ⟨by omega, by omega⟩
      have li : f_X12_lies (nO ne) 0 1 = 0 ↔ ¬ (ne = 1 ∨ ne = 2) := by
        have : ∀ ne, ne < 13 → (f_X12_lies (nO ne) 0 1 = 0 ↔ ¬ (ne = 1 ∨ ne = 2)) := by decide +kernel
        exact this ne hn
      refine ⟨fun z3 => keep h8 1 f8 k8 ?_, fun z3 => ⟨fun z4 => keep h8 1 f8 k8 ?_, fun z4 => keep h8 2 f8 k8 ?_⟩⟩
      · have : ¬ ki = o := fun y => z3 (by rw [y])
        rw [es, decide_eq_false (fun y => this y.1)]
        rfl
      · rw [es, decide_eq_false (fun y => li.mp z4 y.2)]
        rfl
      · have y1 : ki = o := (nI_eq (by omega) (by omega)).mp z3
        have y2 : ne = 1 ∨ ne = 2 := Classical.not_not.mp (fun y => z4 (li.mpr y))
        rw [es, decide_eq_true ⟨y1, y2⟩]
        rfl
end MK
