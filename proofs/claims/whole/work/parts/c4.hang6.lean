/-! ===== hang on both sides ===== -/
def fwI (F : Nat × Nat × Nat) : Int32 := if F.2.1 = 0 then -1 else nI F.1
section HR
variable {KX : ah_T → Prop} {RX WX SX : (Nat → Nat) → ah_T → Prop} {A : Nat → Nat} {h g u : ah_T} {s k w m r i j a b n c g0 : Nat}
theorem m_hangRun {Q : Option Value → ah_T → Prop} {x5 : Int32} (hs : Sh h) (V : hgV s k w m) (q0 : mhO A s k h) (hx : ∃ i, i ≤ hN s + 1 ∧ x5 = nI i) (hq : ∀ g v, mgF h g → mhO A s k g → hA A s k w m x5 v → Q (some (.int v)) g) : Wp mX12_hang Q 0 0 111 [some (.ref 82), none, none, some (.int (nI w)), some (.int (nI m)), some (.int x5), some (.int (nI (hN s))), some (.int (nI (hN k))), some (.int (nI 1)), some (.int (nI 0)), none, none, none, none, none] [] h := by
  have V' := V
  obtain ⟨v1, v2, v3, v4, v5, v6, v7, v8⟩ := V'
  have ec := hC_e k
  have np := hN_pos v1 (by omega)
  have kp := hN_pos v4 (by omega)
  have cp : 0 < hC k := by omega
  have pN := pw_46 (c := hC k) (n := hN s) (by omega) v3
  have n118 : ∀ {u : ah_T}, Sh u → ah_n u 118 = 6 := fun hs => sh_n hs 118 6 (by decide) (by decide) rfl
  have n119 : ∀ {u : ah_T}, Sh u → ah_n u 119 = 6 := fun hs => sh_n hs 119 6 (by decide) (by decide) rfl
  have n120 : ∀ {u : ah_T}, Sh u → ah_n u 120 = 3 := fun hs => sh_n hs 120 3 (by decide) (by decide) rfl
  have c0 : ¬ nI (hN k) + 1 = 0 := by rw [nI_1, n_0, nI_eq (by omega) (by omega)]; omega
  have c1 : nI (hN k) + 1 = nI (hC k) := nI_1 _
  have fw1 : ∀ r, fwI (hF A s k w m r) = -1 ↔ (hF A s k w m r).2.1 = 0 := fun r => by
    have := (hF_in A s k w m r).1
    unfold fwI
    by_cases z : (hF A s k w m r).2.1 = 0
    · rw [if_pos z]; exact ⟨fun _ => z, fun _ => rfl⟩
    · rw [if_neg z]; exact ⟨fun y => absurd y (nI_m1 (by omega)), fun y => absurd y z⟩
  have l142 : ∀ (q r : Nat) (u : ah_T), r + q = hC k ^ hN s → mgF h u → mhO A s k u → ((hF A s k w m r).2.1 ≠ 0 → ∀ i, i < hN s → ah_i u 119 i = nI (hkd s k (hF A s k w m r).2.2 i)) → Wp mX12_hang Q 0 0 142 [some (.ref 82), none, none, some (.int (nI w)), some (.int (nI m)), some (.int x5), some (.int (nI (hN s))), some (.int (nI (hN k))), some (.int (nI (hC k ^ hN s))), some (.int (fwI (hF A s k w m r))), some (.int (nI (hF A s k w m r).2.1)), some (.int (nI r)), none, none, none] [] u := by
    intro q
    induction q with
    | zero =>
      intro r u hr fu mu ro
      have e9 : r = hC k ^ hN s := by omega
      refine T_X12_hang_142 fu.1 _ _ _ _ _ _ _ _ _ ?_
      rw [e9]
      (first | refine ⟨fun _ => ?_, fun n_ => absurd (show nI (hC k ^ hN s) ≤ nI (hC k ^ hN s) from nI_le (Nat.le_refl _) (by omega)) n_⟩ | refine ⟨fun n_ => absurd (show nI (hC k ^ hN s) ≤ nI (hC k ^ hN s) from nI_le (Nat.le_refl _) (by omega)) n_, fun _ => ?_⟩ | refine ⟨fun y_ => absurd y_ (show nI (hC k ^ hN s) ≤ nI (hC k ^ hN s) from nI_le (Nat.le_refl _) (by omega)), fun _ => ?_⟩ | refine ⟨fun _ => ?_, fun y_ => absurd y_ (show nI (hC k ^ hN s) ≤ nI (hC k ^ hN s) from nI_le (Nat.le_refl _) (by omega))⟩)
      rw [e9] at ro
      have fe := hF_in A s k w m (hC k ^ hN s)
      refine ⟨fun z => ⟨fun y => ?_, fun y => ?_⟩, fun z => hq u _ fu mu (.inl ⟨z, rfl⟩)⟩
      · have w0 : (hF A s k w m (hC k ^ hN s)).2.1 ≠ 0 := fun t => y ((fw1 _).mpr t)
        obtain ⟨i, hi, ei⟩ := hx
        refine ⟨fun x0 => ?_, fun x0 => ?_⟩
        · have i2 : 2 ≤ i := by
            rcases (show i = 0 ∨ i = 1 ∨ 2 ≤ i by omega) with t | t | t
            · exact absurd (by rw [ei, t]; rfl) x0
            · exact absurd (by rw [ei, t]; rfl) z
            · exact t
          rw [ei, n_2, nI_sub i2, nI_clamp (show i - 2 < 2 ^ 31 by omega), ro w0 (i - 2) (by omega), n119 fu.1]
          exact ⟨(vp_nI (by omega)).mpr (by omega), hq u _ fu mu (.inr (.inr (.inr ⟨z, w0, i - 2, by omega, by rw [ei]; congr 1; omega, rfl⟩)))⟩
        · refine hq u _ fu mu (.inr (.inr (.inl ⟨z, w0, x0, ?_⟩)))
          unfold fwI
          rw [if_neg w0]
      · exact hq u _ fu mu (.inr (.inl ⟨z, (fw1 _).mp y, rfl⟩))
    | succ q ih =>
      intro r u hr fu mu ro
      have hlt : r < hC k ^ hN s := by omega
      obtain ⟨f1, f2, f3⟩ := hF_in A s k w m r
      have cl := hcn_le s k r
      refine T_X12_hang_142 fu.1 _ _ _ _ _ _ _ _ _ ?_
      (first | refine ⟨fun _ => ?_, fun n_ => absurd (show ¬ nI (hC k ^ hN s) ≤ nI r from nI_ge hlt (by omega)) n_⟩ | refine ⟨fun n_ => absurd (show ¬ nI (hC k ^ hN s) ≤ nI r from nI_ge hlt (by omega)) n_, fun _ => ?_⟩ | refine ⟨fun y_ => absurd y_ (show ¬ nI (hC k ^ hN s) ≤ nI r from nI_ge hlt (by omega)), fun _ => ?_⟩ | refine ⟨fun _ => ?_, fun y_ => absurd y_ (show ¬ nI (hC k ^ hN s) ≤ nI r from nI_ge hlt (by omega))⟩)
      -- on with the next row
      have nx : ∀ (v : ah_T) (x9 x10 : Int32), mgF h v → mhO A s k v → x9 = fwI (hF A s k w m (r + 1)) → x10 = nI (hF A s k w m (r + 1)).2.1 → ((hF A s k w m (r + 1)).2.1 ≠ 0 → ∀ i, i < hN s → ah_i v 119 i = nI (hkd s k (hF A s k w m (r + 1)).2.2 i)) → Wp mX12_hang Q 0 0 321 [some (.ref 82), none, none, some (.int (nI w)), some (.int (nI m)), some (.int x5), some (.int (nI (hN s))), some (.int (nI (hN k))), some (.int (nI (hC k ^ hN s))), some (.int x9), some (.int x10), some (.int (nI r)), none, none, none] [] v := by
        rintro v x9 x10 fv mv rfl rfl rov
        refine T_X12_hang_321 fv.1 _ _ _ _ _ _ _ _ _ ?_
        rw [nI_1]
        exact ih (r + 1) v (by omega) fv mv rov
      have skip : ∀ (v : ah_T), mgF h v → mhO A s k v → hF A s k w m (r + 1) = hF A s k w m r → ((hF A s k w m r).2.1 ≠ 0 → ∀ i, i < hN s → ah_i v 119 i = nI (hkd s k (hF A s k w m r).2.2 i)) → Wp mX12_hang Q 0 0 321 [some (.ref 82), none, none, some (.int (nI w)), some (.int (nI m)), some (.int x5), some (.int (nI (hN s))), some (.int (nI (hN k))), some (.int (nI (hC k ^ hN s))), some (.int (fwI (hF A s k w m r))), some (.int (nI (hF A s k w m r).2.1)), some (.int (nI r)), none, none, none] [] v := fun v fv mv e rov => nx v _ _ fv mv (by rw [e]) (by rw [e]) (by rw [e]; exact rov)
      -- the row stands
      have hang : ∀ (v : ah_T), mgF h v → mhO A s k v → (∀ i, i < hN s → ah_i v 118 i = nI (hkd s k r i)) → ((hF A s k w m r).2.1 ≠ 0 → ∀ i, i < hN s → ah_i v 119 i = nI (hkd s k (hF A s k w m r).2.2 i)) → ¬ ((hF A s k w m r).2.1 ≠ 0 ∧ (hF A s k w m r).1 < hcn s k r) → Wp mX12_hang Q 0 0 253 [some (.ref 82), none, none, some (.int (nI w)), some (.int (nI m)), some (.int x5), some (.int (nI (hN s))), some (.int (nI (hN k))), some (.int (nI (hC k ^ hN s))), some (.int (fwI (hF A s k w m r))), some (.int (nI (hF A s k w m r).2.1)), some (.int (nI r)), none, some (.int (nI (hcn s k r))), none] [] v := by
        intro v fv mv kv rov nlt
        refine T_X12_hang_253 fv.1 _ _ _ _ _ _ _ _ _ _ ?_
        refine m_hangs fv.1 V mv kv rfl rfl rfl (fun ok g fg mg => ⟨_, rfl, fg.1, ?_⟩) (fun no g fg mg => ⟨_, rfl, fg.1, ?_⟩)
        rotate_left
        · (first | refine ⟨fun _ => ?_, fun n_ => absurd (show (0 : Int32) = 0 from rfl) n_⟩ | refine ⟨fun n_ => absurd (show (0 : Int32) = 0 from rfl) n_, fun _ => ?_⟩ | refine ⟨fun y_ => absurd y_ (show (0 : Int32) = 0 from rfl), fun _ => ?_⟩ | refine ⟨fun _ => ?_, fun y_ => absurd y_ (show (0 : Int32) = 0 from rfl)⟩)
          exact skip g (mgF_t fv (mgF_k fg)) mg (hF_no no) (fun y i hi => by rw [(fg.2.2.1 119 (by decide) (by decide) (by decide) (by decide) (by decide)).1]; exact rov y i hi)
        (first | refine ⟨fun _ => ?_, fun n_ => absurd (show ¬ (1 : Int32) = 0 by decide) n_⟩ | refine ⟨fun n_ => absurd (show ¬ (1 : Int32) = 0 by decide) n_, fun _ => ?_⟩ | refine ⟨fun y_ => absurd y_ (show ¬ (1 : Int32) = 0 by decide), fun _ => ?_⟩ | refine ⟨fun _ => ?_, fun y_ => absurd y_ (show ¬ (1 : Int32) = 0 by decide)⟩)
        have ehF := hF_ok ok
        have g118 : ∀ i, i < hN s → ah_i g 118 i = nI (hkd s k r i) := fun i hi => by rw [(fg.2.2.1 118 (by decide) (by decide) (by decide) (by decide) (by decide)).1]; exact kv i hi
        have g119 : (hF A s k w m r).2.1 ≠ 0 → ∀ i, i < hN s → ah_i g 119 i = nI (hkd s k (hF A s k w m r).2.2 i) := fun y i hi => by rw [(fg.2.2.1 119 (by decide) (by decide) (by decide) (by decide) (by decide)).1]; exact rov y i hi
        have fg' := mgF_t fv (mgF_k fg)
        -- a first row
        have first : hcn s k r < (hF A s k w m r).1 → Wp mX12_hang Q 0 0 281 [some (.ref 82), none, none, some (.int (nI w)), some (.int (nI m)), some (.int x5), some (.int (nI (hN s))), some (.int (nI (hN k))), some (.int (nI (hC k ^ hN s))), none, none, some (.int (nI r)), none, some (.int (nI (hcn s k r))), none] [] g := by
          intro lt
          rw [if_pos lt] at ehF
          have l291 : ∀ (q2 i : Nat) (v : ah_T), i + q2 = hN s → mgF h v → mhO A s k v → (∀ j, j < hN s → ah_i v 118 j = nI (hkd s k r j)) → (∀ j, j < i → ah_i v 119 j = nI (hkd s k r j)) → Wp mX12_hang Q 0 0 291 [some (.ref 82), none, none, some (.int (nI w)), some (.int (nI m)), some (.int x5), some (.int (nI (hN s))), some (.int (nI (hN k))), some (.int (nI (hC k ^ hN s))), some (.int (nI (hcn s k r))), some (.int (nI 0)), some (.int (nI r)), none, none, some (.int (nI i))] [] v := by
            intro q2
            induction q2 with
            | zero =>
              intro i v hi fv mv kv rv
              have e9 : i = hN s := by omega
              refine T_X12_hang_291 fv.1 _ _ _ _ _ _ _ _ _ _ ?_
              rw [e9]
              (first | refine ⟨fun _ => ?_, fun n_ => absurd (show nI (hN s) ≤ nI (hN s) from nI_le (Nat.le_refl _) (by omega)) n_⟩ | refine ⟨fun n_ => absurd (show nI (hN s) ≤ nI (hN s) from nI_le (Nat.le_refl _) (by omega)) n_, fun _ => ?_⟩ | refine ⟨fun y_ => absurd y_ (show nI (hN s) ≤ nI (hN s) from nI_le (Nat.le_refl _) (by omega)), fun _ => ?_⟩ | refine ⟨fun _ => ?_, fun y_ => absurd y_ (show nI (hN s) ≤ nI (hN s) from nI_le (Nat.le_refl _) (by omega))⟩)
              refine T_X12_hang_318 fv.1 _ _ _ _ _ _ _ _ _ ?_
              refine nx v _ _ fv mv ?_ ?_ ?_
              · rw [ehF]; rfl
              · rw [ehF, nI_1]
              · rw [ehF]; exact fun _ j hj => rv j (by omega)
            | succ q2 ih2 =>
              intro i v hi fv mv kv rv
              have vi : vp_in (nI i) 6 := (vp_nI (by omega)).mpr (by omega)
              refine T_X12_hang_291 fv.1 _ _ _ _ _ _ _ _ _ _ ?_
              (first | refine ⟨fun _ => ?_, fun n_ => absurd (show ¬ nI (hN s) ≤ nI i from nI_ge (by omega) (by omega)) n_⟩ | refine ⟨fun n_ => absurd (show ¬ nI (hN s) ≤ nI i from nI_ge (by omega) (by omega)) n_, fun _ => ?_⟩ | refine ⟨fun y_ => absurd y_ (show ¬ nI (hN s) ≤ nI i from nI_ge (by omega) (by omega)), fun _ => ?_⟩ | refine ⟨fun _ => ?_, fun y_ => absurd y_ (show ¬ nI (hN s) ≤ nI i from nI_ge (by omega) (by omega))⟩)
              rw [n118 fv.1, n119 fv.1, nI_clamp (show i < 2 ^ 31 by omega), nI_1, kv i (by omega)]
              refine ⟨vi, vi, ?_⟩
              rintro h58 rfl
              refine ih2 (i + 1) _ (by omega) (mgF_s (.inr rfl) fv) (mhO_s (.inr rfl) mv) (fun j hj => by rw [ah_i_sn (by omega)]; exact kv j hj) (fun j hj => ?_)
              by_cases y : j = i
              · rw [y, ah_i_ss]
              · rw [ah_i_sn (fun t => y t.2)]; exact rv j (by omega)
          exact T_X12_hang_281 fg.1 _ _ _ _ _ _ _ _ (l291 (hN s) 0 g (by omega) fg' mg g118 (fun j hj => absurd hj (by omega)))
        by_cases z : (hF A s k w m r).2.1 = 0
        · (first | refine ⟨fun _ => ?_, fun n_ => absurd ((fw1 r).mpr z) n_⟩ | refine ⟨fun n_ => absurd ((fw1 r).mpr z) n_, fun _ => ?_⟩ | refine ⟨fun y_ => absurd y_ ((fw1 r).mpr z), fun _ => ?_⟩ | refine ⟨fun _ => ?_, fun y_ => absurd y_ ((fw1 r).mpr z)⟩)
          have := f3.mp z
          exact first (by omega)
        · (first | refine ⟨fun _ => ?_, fun n_ => absurd (fun y => z ((fw1 r).mp y)) n_⟩ | refine ⟨fun n_ => absurd (fun y => z ((fw1 r).mp y)) n_, fun _ => ?_⟩ | refine ⟨fun y_ => absurd y_ (fun y => z ((fw1 r).mp y)), fun _ => ?_⟩ | refine ⟨fun _ => ?_, fun y_ => absurd y_ (fun y => z ((fw1 r).mp y))⟩)
          have ef : fwI (hF A s k w m r) = nI (hF A s k w m r).1 := if_neg z
          rw [ef, nI_leI (show (hF A s k w m r).1 < 2 ^ 31 by omega) (show hcn s k r < 2 ^ 31 by omega)]
          refine ⟨fun le => ?_, fun nle => first (by omega)⟩
          have eq : hcn s k r = (hF A s k w m r).1 := by
            have : ¬ (hF A s k w m r).1 < hcn s k r := fun y => nlt ⟨z, y⟩
            omega
          rw [if_neg (by omega), if_pos eq] at ehF
          refine T_X12_hang_318 fg.1 _ _ _ _ _ _ _ _ _ ?_
          refine nx g _ _ fg' mg ?_ ?_ ?_
          · rw [ehF]
            unfold fwI
            rw [if_neg (by show ¬ _ + 1 = 0; omega)]
          · rw [ehF, nI_1]
          · rw [ehF]; exact fun _ => g119 z
      -- the row's kinds
      have l162 : ∀ (i rest : Nat) (v : ah_T), i ≤ hN s → rest = r / hC k ^ (hN s - i) → mgF h v → mhO A s k v → ((hF A s k w m r).2.1 ≠ 0 → ∀ i, i < hN s → ah_i v 119 i = nI (hkd s k (hF A s k w m r).2.2 i)) → (∀ j, i ≤ j → j < hN s → ah_i v 118 j = nI (hkd s k r j)) → Wp mX12_hang Q 0 0 162 [some (.ref 82), none, none, some (.int (nI w)), some (.int (nI m)), some (.int x5), some (.int (nI (hN s))), some (.int (nI (hN k))), some (.int (nI (hC k ^ hN s))), some (.int (fwI (hF A s k w m r))), some (.int (nI (hF A s k w m r).2.1)), some (.int (nI r)), some (.int (nI rest)), some (.int (nI (hcn s k r - cb (fun a => decide (hch s k r a ≠ 0)) i))), some (.int (nO i))] [] v := by
        intro i
        induction i with
        | zero =>
          intro rest v hi hrest fv mv rov kv
          have c00 : cb (fun a => decide (hch s k r a ≠ 0)) 0 = 0 := rfl
          rw [c00, Nat.sub_zero]
          refine T_X12_hang_162 fv.1 _ _ _ _ _ _ _ _ _ _ _ _ ?_
          (first | refine ⟨fun _ => ?_, fun n_ => absurd (show nO 0 < 0 by decide) n_⟩ | refine ⟨fun n_ => absurd (show nO 0 < 0 by decide) n_, fun _ => ?_⟩ | refine ⟨fun y_ => absurd y_ (show nO 0 < 0 by decide), fun _ => ?_⟩ | refine ⟨fun _ => ?_, fun y_ => absurd y_ (show nO 0 < 0 by decide)⟩)
          by_cases z : (hF A s k w m r).2.1 = 0
          · (first | refine ⟨fun _ => ?_, fun n_ => absurd ((fw1 r).mpr z) n_⟩ | refine ⟨fun n_ => absurd ((fw1 r).mpr z) n_, fun _ => ?_⟩ | refine ⟨fun y_ => absurd y_ ((fw1 r).mpr z), fun _ => ?_⟩ | refine ⟨fun _ => ?_, fun y_ => absurd y_ ((fw1 r).mpr z)⟩)
            exact hang v fv mv (fun j hj => kv j (by omega) hj) rov (fun y => y.1 z)
          · (first | refine ⟨fun _ => ?_, fun n_ => absurd (fun y => z ((fw1 r).mp y)) n_⟩ | refine ⟨fun n_ => absurd (fun y => z ((fw1 r).mp y)) n_, fun _ => ?_⟩ | refine ⟨fun y_ => absurd y_ (fun y => z ((fw1 r).mp y)), fun _ => ?_⟩ | refine ⟨fun _ => ?_, fun y_ => absurd y_ (fun y => z ((fw1 r).mp y))⟩)
            have ef : fwI (hF A s k w m r) = nI (hF A s k w m r).1 := if_neg z
            have hg := hang v fv mv (fun j hj => kv j (by omega) hj) rov
            have sk := fun e => skip v fv mv e rov
            rw [ef] at hg sk ⊢
            rw [nI_ltI (show (hF A s k w m r).1 < 2 ^ 31 by omega) (show hcn s k r < 2 ^ 31 by omega)]
            refine ⟨fun lt => sk ?_, fun nlt => hg (fun y => nlt y.2)⟩
            by_cases ok : okH A s k w m r
            · rw [hF_ok ok, if_neg (by omega), if_neg (by omega)]
            · exact hF_no ok
        | succ i ih2 =>
          intro rest v hi hrest fv mv rov kv
          have hin : i < hN s := by omega
          have hl := hch_lt s k r i
          have rle : rest < 2 ^ 31 := by rw [hrest]; exact Nat.lt_of_le_of_lt (Nat.div_le_self _ _) (by omega)
          have erem : nI rest - nI rest / nI (hC k) * nI (hC k) = nI (hch s k r i) := by
            rw [nI_remI rle (by omega), hrest, show hN s - (i + 1) = hN s - 1 - i by omega]
            rfl
          have ediv : nI rest / nI (hC k) = nI (rest / hC k) := nI_divI rle (by omega)
          have erest : rest / hC k = r / hC k ^ (hN s - i) := by
            rw [hrest, Nat.div_div_eq_div_mul, ← Nat.pow_succ, show (hN s - (i + 1)).succ = hN s - i by omega]
          have cm := cb_mn (fun a => decide (hch s k r a ≠ 0)) (show i + 1 ≤ hN s by omega)
          have cN : cb (fun a => decide (hch s k r a ≠ 0)) (hN s) = hcn s k r := rfl
          have vi : vp_in (nI i) 6 := (vp_nI (by omega)).mpr (by omega)
          refine T_X12_hang_162 fv.1 _ _ _ _ _ _ _ _ _ _ _ _ ?_
          rw [nO_s]
          (first | refine ⟨fun _ => ?_, fun n_ => absurd (show ¬ nI i < 0 from nI_pos (by omega)) n_⟩ | refine ⟨fun n_ => absurd (show ¬ nI i < 0 from nI_pos (by omega)) n_, fun _ => ?_⟩ | refine ⟨fun y_ => absurd y_ (show ¬ nI i < 0 from nI_pos (by omega)), fun _ => ?_⟩ | refine ⟨fun _ => ?_, fun y_ => absurd y_ (show ¬ nI i < 0 from nI_pos (by omega))⟩)
          rw [c1, erem, ediv, nI_clamp (show i < 2 ^ 31 by omega), n118 fv.1, n120 fv.1, nO_m1]
          have c0' : ¬ nI (hC k) = 0 := by rw [← c1]; exact c0
          -- a kind, or none
          have step : ∀ (x : Int32) (x13 : Int32), x = nI (hkd s k r i) → x13 = nI (hcn s k r - cb (fun a => decide (hch s k r a ≠ 0)) i) → Wp mX12_hang Q 0 0 162 [some (.ref 82), none, none, some (.int (nI w)), some (.int (nI m)), some (.int x5), some (.int (nI (hN s))), some (.int (nI (hN k))), some (.int (nI (hC k ^ hN s))), some (.int (fwI (hF A s k w m r))), some (.int (nI (hF A s k w m r).2.1)), some (.int (nI r)), some (.int (nI (rest / hC k))), some (.int x13), some (.int (nO i))] [] (ah_si v 118 i x) := by
            rintro x x13 rfl rfl
            refine ih2 (rest / hC k) _ (by omega) erest (mgF_s (.inl rfl) fv) (mhO_s (.inl rfl) mv) (fun y j hj => by rw [ah_i_sn (by omega)]; exact rov y j hj) (fun j h1 h2 => ?_)
            by_cases y : j = i
            · rw [y, ah_i_ss]
            · rw [ah_i_sn (fun t => y t.2)]; exact kv j (by omega) h2
          refine ⟨c0', fun z => ?_, fun z => ?_⟩
          · have zz : hch s k r i ≠ 0 := fun y => z (by rw [y]; rfl)
            have k6 : hkd s k r i < 6 := by rw [hkd_y zz]; exact nth_bd (K := 6) v5 (by omega)
            have cs := cb_t1 (f := fun a => decide (hch s k r a ≠ 0)) (j := i) (decide_eq_true zz)
            rw [n_1, nI_sub (by omega), nI_clamp (show hch s k r i - 1 < 2 ^ 31 by omega), mv.2.2.2.2 _ (by omega), ← hkd_y zz]
            refine ⟨c0', (vp_nI (by omega)).mpr (by omega), vi, ?_⟩
            rintro h34 rfl
            rw [n118 (sh_si fv.1), ah_i_ss]
            refine ⟨vi, fun _ => ⟨c0', step _ _ rfl ?_⟩, fun y => ?_⟩
            · rw [← n_1, nI_1]
              congr 1
              omega
            · rw [n_100, nI_eq (by omega) (by omega)] at y
              omega
          · have zz : hch s k r i = 0 := by rwa [n_0, nI_eq (by omega) (by omega)] at z
            have cs := cb_t0 (f := fun a => decide (hch s k r a ≠ 0)) (j := i) (by rw [zz]; rfl)
            have ek : hkd s k r i = 100 := by unfold hkd; rw [if_pos zz]
            refine ⟨vi, ?_⟩
            rintro h42 rfl
            rw [n118 (sh_si fv.1), ah_i_ss]
            refine ⟨vi, fun y => absurd rfl y, fun _ => ⟨c0', step _ _ (by rw [ek]; rfl) ?_⟩⟩
            rw [Int32.add_zero, cs]
      have g := l162 (hN s) r u (Nat.le_refl _) (by rw [Nat.sub_self, Nat.pow_zero, Nat.div_one]) fu mu ro (fun j h1 h2 => absurd h2 (by omega))
      have e0 : hcn s k r - cb (fun a => decide (hch s k r a ≠ 0)) (hN s) = 0 := by
        have : cb (fun a => decide (hch s k r a ≠ 0)) (hN s) = hcn s k r := rfl
        omega
      rw [e0] at g
      rw [n_1, nI_sub (by omega)]
      have eO : nO (hN s) = nI (hN s - 1) := by
        rw [show hN s = (hN s - 1) + 1 by omega, nO_s, Nat.add_sub_cancel]
      rw [eO] at g
      exact g
  have l111 : ∀ (q i : Nat), i + q = hN s → Wp mX12_hang Q 0 0 111 [some (.ref 82), none, none, some (.int (nI w)), some (.int (nI m)), some (.int x5), some (.int (nI (hN s))), some (.int (nI (hN k))), some (.int (nI (hC k ^ i))), some (.int (nI i)), none, none, none, none, none] [] h := by
    intro q
    induction q with
    | zero =>
      intro i hi
      have e9 : i = hN s := by omega
      refine T_X12_hang_111 hs _ _ _ _ _ _ _ ?_
      rw [e9]
      (first | refine ⟨fun _ => ?_, fun n_ => absurd (show nI (hN s) ≤ nI (hN s) from nI_le (Nat.le_refl _) (by omega)) n_⟩ | refine ⟨fun n_ => absurd (show nI (hN s) ≤ nI (hN s) from nI_le (Nat.le_refl _) (by omega)) n_, fun _ => ?_⟩ | refine ⟨fun y_ => absurd y_ (show nI (hN s) ≤ nI (hN s) from nI_le (Nat.le_refl _) (by omega)), fun _ => ?_⟩ | refine ⟨fun _ => ?_, fun y_ => absurd y_ (show nI (hN s) ≤ nI (hN s) from nI_le (Nat.le_refl _) (by omega))⟩)
      exact l142 (hC k ^ hN s) 0 h (by omega) (mgF_r hs) q0 (fun y => absurd rfl y)
    | succ q ih =>
      intro i hi
      refine T_X12_hang_111 hs _ _ _ _ _ _ _ ?_
      (first | refine ⟨fun _ => ?_, fun n_ => absurd (show ¬ nI (hN s) ≤ nI i from nI_ge (by omega) (by omega)) n_⟩ | refine ⟨fun n_ => absurd (show ¬ nI (hN s) ≤ nI i from nI_ge (by omega) (by omega)) n_, fun _ => ?_⟩ | refine ⟨fun y_ => absurd y_ (show ¬ nI (hN s) ≤ nI i from nI_ge (by omega) (by omega)), fun _ => ?_⟩ | refine ⟨fun _ => ?_, fun y_ => absurd y_ (show ¬ nI (hN s) ≤ nI i from nI_ge (by omega) (by omega))⟩)
      rw [c1, nI_mul, ← Nat.pow_succ, nI_1]
      exact ih (i + 1) (by omega)
  exact l111 (hN s) 0 (by omega)
end HR
