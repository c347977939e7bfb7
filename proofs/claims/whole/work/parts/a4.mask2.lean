/-! ===== the model's questions of reach and drink ===== -/
section MK
variable {A : Nat → Nat} {h : ah_T}
theorem nO_i {n : Nat} (h : n < 2 ^ 30) : (nO n).toInt = (n : Int) - 1 := by
  cases n with
  | zero => rfl
  | succ j => rw [nO_s, nI_toInt (by omega)]; omega
theorem nO_1 (n : Nat) : nO n + 1 = nI n := by unfold nO; grind
theorem mt_reach {Q : Option Value → ah_T → Prop} (hs : Sh h) (m : mLw A h) (k : mKn A h) {l ki mi : Nat} {x1 x2 x3 : Int32} (hl : l < 11) (hk : ki < 6) (hmi : mi < 120) (e1 : x1 = nO l) (e2 : x2 = nI ki) (e3 : x3 = nI mi)
    (hq : ∀ h', knF h h' → mKw A h' → Q (some (.int (nI (rchA A l ki mi)))) h') : Mt mX12_reachOf [.ref 82, .int x1, .int x2, .int x3] h Q := by
  subst e1 e2 e3
  refine T_X12_reachOf hs _ _ _ (m_knows hs k (fun h1 f1 k1 => ⟨rfl, f1.1, ?_⟩))
  have ix : ((nO l + 1) * 6 + nI ki) * 120 + nI mi = nI (ixR l ki mi) := by
    rw [nO_1, n_6, n_120, nI_mul, nI_add, nI_mul, nI_add]; rfl
  have hx : ixR l ki mi < 7920 := by unfold ixR; omega
  have n96 : ∀ {h}, Sh h → ah_n h 96 = 7920 := fun hs => sh_n hs 96 7920 (by decide) (by decide) rfl
  have vp : vp_in (nI (ixR l ki mi)) 7920 := (vp_nI (by omega)).mpr hx
  have rl := rchA_le A l ki mi
  rw [ix, nI_clamp (show ixR l ki mi < 2 ^ 31 by omega), n96 f1.1]
  obtain ⟨p1, p2, p3, p4⟩ := k1
  refine ⟨vp, fun z => ⟨vp, ?_⟩, fun z => ?_⟩
  · rcases p3 l ki mi hl hk hmi with y | y
    · exact absurd y z
    · rw [y, show 1 + rchA A l ki mi = rchA A l ki mi + 1 by omega, nI_pred]
      exact hq h1 f1 ⟨p1, p2, p3, p4⟩
  · have i84 := (f1.2.2.1 84 (by decide) (by decide) (by decide) (by decide) (by decide)).1
    have m1 := mLw_fr i84 m
    refine m_sets (l := (l : Int) - 1) (o := -1) (ne := -1) (la := -1) f1.1 m1.2.2.2.1 m1.2.2.2.2.1 m1.2.2.2.2.2.1 m1.2.2.2.2.2.2.1 (nO_i (by omega)) (nI_toInt (by omega)) rfl rfl rfl (nI_toInt (by omega)) (by omega) (fun h8 s8 x8 e8 w8 => ⟨rfl, s8, ?_⟩)
    have f8 : knF h h8 := knF_t f1 ⟨s8, x8, fun a _ n2 _ _ _ => e8 a n2, fun j _ _ _ _ _ => (e8 82 (by decide)).1 j⟩
    have m8 := mLw_fr (e8 84 (by decide)).1 m1
    have k8 : mKw A h8 := mKw_fr ⟨p1, p2, p3, p4⟩ (fun j _ => (e8 82 (by decide)).1 j) (e8 95 (by decide)).1 (e8 96 (by decide)).1 (e8 97 (by decide)).1
    refine mt_asks m8 s8 (w := wQ ((l : Int) - 1) ki (-1) (-1) (-1) mi (A 242) (A 244)) (hd := 2) (d0 := 1) ⟨by omega, by omega⟩ (by omega) w8 rfl rfl (fun h12 v t12 ev => ⟨v, rfl, t12.1, ?_⟩)
    have k12 : mKw A h12 := mKw_fr k8 (fun j hj => t12.2.2.2 j (by omega) (by omega) (by omega) (by omega)) (t12.2.2.1 95 (by decide)).1 (t12.2.2.1 96 (by decide)).1 (t12.2.2.1 97 (by decide)).1
    have f12 := knF_tl f8 t12
    have ev2 : v = nI (rchA A l ki mi) := by
      rw [ev]
      unfold rchA ansN
      cases lawL A <;> rfl
    rw [n96 f12.1, ev2, n_1, nI_add]
    refine ⟨vp, ?_⟩
    rintro h14 rfl
    rw [ah_n_si, n96 f12.1, ah_i_ss, narB _ (by omega), show 1 + rchA A l ki mi = rchA A l ki mi + 1 by omega, show (nI (rchA A l ki mi + 1) - nI 1) = nI (rchA A l ki mi) from nI_pred _]
    refine ⟨vp, hq _ ⟨sh_si f12.1, by rw [ah_x_si, f12.2.1], fun a n1 n2 n3 n4 n5 => eqc_si (f12.2.2.1 a n1 n2 n3 n4 n5) n4, fun j a1 a2 a3 a4 a5 => by rw [ah_i_sn (by omega)]; exact f12.2.2.2 j a1 a2 a3 a4 a5⟩ ?_⟩
    obtain ⟨u1, u2, u3, u4⟩ := k12
    refine ⟨by rw [ah_i_sn (by omega), ah_i_sn (by omega)]; exact u1, fun l' k' o' ne' la' mi' a1 a2 a3 a4 a5 a6 => by rw [ah_i_sn (by omega)]; exact u2 l' k' o' ne' la' mi' a1 a2 a3 a4 a5 a6, fun l' k' mi' a1 a2 a3 => ?_, fun l' k' mi' a1 a2 a3 => by rw [ah_i_sn (by omega)]; exact u4 l' k' mi' a1 a2 a3⟩
    rw [ah_i_si]
    by_cases z2 : ixR l' k' mi' = ixR l ki mi
    · obtain ⟨v1, v2, v3⟩ := ixR_inj a2 a3 hk hmi z2
      subst v1 v2 v3
      rw [if_pos ⟨rfl, rfl⟩]
      exact .inr (congrArg nI (by omega))
    · rw [if_neg (fun y => z2 y.2)]
      exact u3 l' k' mi' a1 a2 a3
theorem mt_drink {Q : Option Value → ah_T → Prop} (hs : Sh h) (m : mLw A h) (k : mKn A h) {l ki mi : Nat} {x1 x2 x3 : Int32} (hl : l < 10) (hk : ki < 6) (hmi : mi < 120) (e1 : x1 = nI l) (e2 : x2 = nI ki) (e3 : x3 = nI mi)
    (hq : ∀ h', knF h h' → mKw A h' → Q (some (.int (nI (drkA A l ki mi)))) h') : Mt mX12_drinkOf [.ref 82, .int x1, .int x2, .int x3] h Q := by
  subst e1 e2 e3
  refine T_X12_drinkOf hs _ _ _ (m_knows hs k (fun h1 f1 k1 => ⟨rfl, f1.1, ?_⟩))
  have ix : (nI l * 6 + nI ki) * 120 + nI mi = nI (ixR l ki mi) := by
    rw [n_6, n_120, nI_mul, nI_add, nI_mul, nI_add]; rfl
  have hx : ixR l ki mi < 7200 := by unfold ixR; omega
  have n97 : ∀ {h}, Sh h → ah_n h 97 = 7200 := fun hs => sh_n hs 97 7200 (by decide) (by decide) rfl
  have vp : vp_in (nI (ixR l ki mi)) 7200 := (vp_nI (by omega)).mpr hx
  have rl := drkA_le A l ki mi
  rw [ix, nI_clamp (show ixR l ki mi < 2 ^ 31 by omega), n97 f1.1]
  obtain ⟨p1, p2, p3, p4⟩ := k1
  refine ⟨vp, fun z => ⟨vp, ?_⟩, fun z => ?_⟩
  · rcases p4 l ki mi hl hk hmi with y | y
    · exact absurd y z
    · rw [y, show 1 + drkA A l ki mi = drkA A l ki mi + 1 by omega, nI_pred]
      exact hq h1 f1 ⟨p1, p2, p3, p4⟩
  · have i84 := (f1.2.2.1 84 (by decide) (by decide) (by decide) (by decide) (by decide)).1
    have m1 := mLw_fr i84 m
    refine m_sets (l := (l : Int)) (o := -1) (ne := -1) (la := -1) f1.1 m1.2.2.2.1 m1.2.2.2.2.1 m1.2.2.2.2.2.1 m1.2.2.2.2.2.2.1 (nI_toInt (by omega)) (nI_toInt (by omega)) rfl rfl rfl (nI_toInt (by omega)) (by omega) (fun h8 s8 x8 e8 w8 => ⟨rfl, s8, ?_⟩)
    have f8 : knF h h8 := knF_t f1 ⟨s8, x8, fun a _ n2 _ _ _ => e8 a n2, fun j _ _ _ _ _ => (e8 82 (by decide)).1 j⟩
    have m8 := mLw_fr (e8 84 (by decide)).1 m1
    have k8 : mKw A h8 := mKw_fr ⟨p1, p2, p3, p4⟩ (fun j _ => (e8 82 (by decide)).1 j) (e8 95 (by decide)).1 (e8 96 (by decide)).1 (e8 97 (by decide)).1
    refine mt_asks m8 s8 (w := wQ (l : Int) ki (-1) (-1) (-1) mi (A 242) (A 244)) (hd := 3) (d0 := 1) ⟨by omega, by omega⟩ (by omega) w8 rfl rfl (fun h12 v t12 ev => ⟨v, rfl, t12.1, ?_⟩)
    have k12 : mKw A h12 := mKw_fr k8 (fun j hj => t12.2.2.2 j (by omega) (by omega) (by omega) (by omega)) (t12.2.2.1 95 (by decide)).1 (t12.2.2.1 96 (by decide)).1 (t12.2.2.1 97 (by decide)).1
    have f12 := knF_tl f8 t12
    have ev2 : v = nI (drkA A l ki mi) := by
      rw [ev]
      unfold drkA ansN
      cases lawL A <;> rfl
    rw [n97 f12.1, ev2, n_1, nI_add]
    refine ⟨vp, ?_⟩
    rintro h14 rfl
    rw [ah_n_si, n97 f12.1, ah_i_ss, narB _ (by omega), show 1 + drkA A l ki mi = drkA A l ki mi + 1 by omega, show (nI (drkA A l ki mi + 1) - nI 1) = nI (drkA A l ki mi) from nI_pred _]
    refine ⟨vp, hq _ ⟨sh_si f12.1, by rw [ah_x_si, f12.2.1], fun a n1 n2 n3 n4 n5 => eqc_si (f12.2.2.1 a n1 n2 n3 n4 n5) n5, fun j a1 a2 a3 a4 a5 => by rw [ah_i_sn (by omega)]; exact f12.2.2.2 j a1 a2 a3 a4 a5⟩ ?_⟩
    obtain ⟨u1, u2, u3, u4⟩ := k12
    refine ⟨by rw [ah_i_sn (by omega), ah_i_sn (by omega)]; exact u1, fun l' k' o' ne' la' mi' a1 a2 a3 a4 a5 a6 => by rw [ah_i_sn (by omega)]; exact u2 l' k' o' ne' la' mi' a1 a2 a3 a4 a5 a6, fun l' k' mi' a1 a2 a3 => by rw [ah_i_sn (by omega)]; exact u3 l' k' mi' a1 a2 a3, fun l' k' mi' a1 a2 a3 => ?_⟩
    rw [ah_i_si]
    by_cases z2 : ixR l' k' mi' = ixR l ki mi
    · obtain ⟨v1, v2, v3⟩ := ixR_inj a2 a3 hk hmi z2
      subst v1 v2 v3
      rw [if_pos ⟨rfl, rfl⟩]
      exact .inr (congrArg nI (by omega))
    · rw [if_neg (fun y => z2 y.2)]
      exact u4 l' k' mi' a1 a2 a3
end MK
