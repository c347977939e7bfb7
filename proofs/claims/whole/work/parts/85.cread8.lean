/-! ===== the class's reader: a test, and-chains ===== -/
section CR
variable {cs vs : Nat → Nat} {isV : Nat → Bool} {n : Nat} {h0 h : ah_T}
theorem bd_pl {K q q' q0 lv lv0 l : Nat} (h1 : 2 * q + 2 ≤ 2 * q0 + (K + 1) * (lv - lv0)) (h2 : lv0 ≤ lv) (h3 : lv + 2 ≤ l) (h4 : 2 * q' + 0 ≤ 2 * (q + 1) + K * (l - lv)) : 2 * q' + 2 ≤ 2 * q0 + (K + 1) * (l - lv0) := by
  have e : (K + 1) * (l - lv0) = (K + 1) * (lv - lv0) + (K * (l - lv) + (l - lv)) := by
    rw [show l - lv0 = (lv - lv0) + (l - lv) by omega, Nat.mul_add, Nat.succ_mul K (l - lv)]
  omega
theorem bd_room {e q q0 lv lv0 : Nat} (he : e ≤ 8) (h1 : 2 * q + 2 ≤ 2 * q0 + (6 + e + 1) * (lv - lv0)) (h2 : lv0 ≤ lv) (h3 : lv ≤ 50) (h4 : 2 * q0 + 15 * (50 - lv0) ≤ 980) : 2 * (q + 1) + 15 * (50 - lv) ≤ 980 ∧ q < 490 := by
  have : (6 + e + 1) * (lv - lv0) ≤ 15 * (lv - lv0) := Nat.mul_le_mul_right _ (by omega)
  omega
/-- behind a part of an and-chain -/
theorem cr_ands {d e : Nat} {x1 : Int32} {rec : Option (Nat → Nat → pR Tg)} (t : Ck cs vs isV n h0) (hd : 8 ≤ d) (he : e ≤ 8) (hr : ∀ f, rec = some f → lvO n f) (hp : cTd (6 + e) 0 cs vs isV n h0 (mX5_readPlain (d - 1)) x1 (pPlain cs vs isV e rec)) {q0 lv0 : Nat} {c0 : Nat → Nat} {wd0 : Int32} (hroom : 2 * q0 + 15 * (50 - lv0) ≤ 980) (x2 x3 : Int32) (Q : Option Value → ah_T → Prop) (R : ah_T → Prop) :
    ∀ (k : Nat) (h : ah_T) (x4 : Int32) (j i q lv : Nat) (c : Nat → Nat) (wd : Int32) (a : Tg), n - i < k → i ≤ n → lv ≤ 50 → lv0 ≤ lv → j < lv → cPd 13 (6 + e + 1) h0 h x4 i q lv c wd q0 lv0 c0 wd0 a → 2 * q + 2 ≤ 2 * q0 + (6 + e + 1) * (lv - lv0) →
      (∀ h' q' c' wd', (pCh cs (pPlain cs vs isV e rec) (fun c => c == 6) (fun _ => andT) k a i lv).1 = true → cAt (6 + e + 1) h0 h' (pCh cs (pPlain cs vs isV e rec) (fun c => c == 6) (fun _ => andT) k a i lv).2.1 q' (pCh cs (pPlain cs vs isV e rec) (fun c => c == 6) (fun _ => andT) k a i lv).2.2.1 c' wd' q0 lv0 c0 wd0 (pCh cs (pPlain cs vs isV e rec) (fun c => c == 6) (fun _ => andT) k a i lv).2.2.2 → R h') →
      (∀ h', (pCh cs (pPlain cs vs isV e rec) (fun c => c == 6) (fun _ => andT) k a i lv).1 = false → cFr h0 h' → ah_i h' 20 6 = nI (pCh cs (pPlain cs vs isV e rec) (fun c => c == 6) (fun _ => andT) k a i lv).2.1 → Q (some (.int 0)) h') →
      (∀ (h17 : ah_T) (x4' x5' : Int32), Sh h17 → (¬ 400 ≤ x5') → Mt (mX5_readPlain (d - 1)) [.ref 20, .int x1] h17 (ab_qi fun v25 h23 => Sh h23 ∧ ((¬ v25 = 0 → (vp_in (ah_i h23 20 6) (ah_n h23 21)) ∧ (((ah_i h23 21 (Int32.toNatClampNeg (ah_i h23 20 6))) = 23 → (∀ h29, h29 = ah_si h23 20 6 ((ah_i h23 20 6) + 1) → (Mt mX5_aim [.ref 20, .int x4'] h29 (ab_qv fun h32 => Sh h32 ∧ (Mt mX5_emit [.ref 20, .int 13, .int 0] h32 (ab_qi fun v37 h35 => Sh h35 ∧ Wp (mX5_readTest d) Q 0 0 17 [some (.ref 20), some (.int x1), some (.int x2), some (.int x3), some (.int v37), some (.int (x5' + 1))] [] h35)))))) ∧ (¬ (ah_i h23 21 (Int32.toNatClampNeg (ah_i h23 20 6))) = 23 → (Mt mX5_aim [.ref 20, .int x4'] h23 (ab_qv fun h38 => Sh h38 ∧ R h38))))) ∧ (v25 = 0 → Q (some (.int 0)) h23))) → Wp (mX5_readTest d) Q 0 0 17 [some (.ref 20), some (.int x1), some (.int x2), some (.int x3), some (.int x4'), some (.int x5')] [] h17) →
      (vp_in (ah_i h 20 6) (ah_n h 21)) ∧ (((ah_i h 21 (Int32.toNatClampNeg (ah_i h 20 6))) = 23 → (∀ h29, h29 = ah_si h 20 6 ((ah_i h 20 6) + 1) → (Mt mX5_aim [.ref 20, .int x4] h29 (ab_qv fun h32 => Sh h32 ∧ (Mt mX5_emit [.ref 20, .int 13, .int 0] h32 (ab_qi fun v37 h35 => Sh h35 ∧ Wp (mX5_readTest d) Q 0 0 17 [some (.ref 20), some (.int x1), some (.int x2), some (.int x3), some (.int v37), some (.int (nI j + 1))] [] h35)))))) ∧ (¬ (ah_i h 21 (Int32.toNatClampNeg (ah_i h 20 6))) = 23 → (Mt mX5_aim [.ref 20, .int x4] h (ab_qv fun h38 => Sh h38 ∧ R h38)))) := by
  have ok := pPlain_ok (vs := vs) (e := e) t.2.1 t.2.2.1 hr
  have h400 := t.1
  intro k
  induction k with
  | zero => intro h x4 j i q lv c wd a hk; omega
  | succ k ih =>
    intro h x4 j i q lv c wd a hk hi hl hl0 hj p hbd hok hno hT
    have s := cPd_S p
    have t' := Ck_fr s.1 t
    have htk := tkA_i t' hi
    have hle := tkA_le t' hi
    have w6 := tkA_word t' hi (c := 6) (by decide) (by decide)
    obtain ⟨rm1, rm2⟩ := bd_room he hbd hl0 hl hroom
    unfold pCh at hok hno
    rw [s.2.1, nI_clamp (by omega), htk]
    refine ⟨by rw [sh_n s.1.1 21 401 (by decide) (by decide) rfl]; exact (vp_nI (by omega)).mpr (by omega), fun z => ?_, fun z => ?_⟩
    · have c6 : cs i = 6 := w6.mp ((nI_eq (b := 23) (by omega) (by decide)).mp z)
      rw [if_pos (by simp [c6])] at hok hno
      have hin : i < n := by
        rcases Nat.lt_or_ge i n with y | y
        · exact y
        · have : i = n := by omega
          rw [this, t.2.1] at c6
          omega
      rw [← s.2.1]
      rintro h29 rfl
      refine c_fix (.inr rfl) (by omega) (cPd_at p) (fun h32 c32 A => ⟨rfl, A.1.1.1, ?_⟩)
      refine c_emit (o := 13) (v := 0) A.1 (by omega) (by decide) (by decide) rfl rfl (fun h35 s35 => ⟨_, rfl, s35.1.1, ?_⟩)
      obtain ⟨e1, e2, e3⟩ := ok (i + 1) lv (by omega) hl
      rw [nI_1]
      refine hT h35 _ _ s35.1.1 (nI_ge (b := 400) (by omega) (by omega)) ?_
      refine hp _ h35 (i + 1) (q + 1) lv (up c32 q 13) wd (by omega) hl rm1 s35 (fun v h23 pp => ⟨_, rfl, cPt_Sh pp, ?_⟩)
      by_cases c2 : (pPlain cs vs isV e rec (i + 1) lv).1 = true
      · rw [if_pos c2] at hok hno
        obtain ⟨e4, e5, e6⟩ := e3 c2
        obtain ⟨ev, _, _, _, _, l2, _⟩ := pp.1 c2
        rw [ev]
        (first | refine ⟨fun _ => ?_, fun n_ => absurd (show ¬ (1 : Int32) = 0 by decide) n_⟩ | refine ⟨fun n_ => absurd (show ¬ (1 : Int32) = 0 by decide) n_, fun _ => ?_⟩ | refine ⟨fun y_ => absurd y_ (show ¬ (1 : Int32) = 0 by decide), fun _ => ?_⟩ | refine ⟨fun _ => ?_, fun y_ => absurd y_ (show ¬ (1 : Int32) = 0 by decide)⟩)
        obtain ⟨q', c', wd', p'⟩ := cPd_next (o := 13) (K := 6 + e + 1) (sl := 0) (Nat.le_refl _) A s35 c2 (fun q' b => bd_pl (K := 6 + e) hbd hl0 l2 b) pp
        have bq : 2 * q' + 2 ≤ 2 * q0 + (6 + e + 1) * ((pPlain cs vs isV e rec (i + 1) lv).2.2.1 - lv0) := by
          rcases p' with ⟨_, y⟩ | ⟨_, _, _, _, _, _, _, _, _, _, _, y, _⟩
          · exact y.2.2.1
          · exact y
        exact ih h23 (nI q) (j + 1) _ q' _ c' wd' _ (by omega) e1 e6 (by omega) (by omega) p' bq hok hno hT
      · rw [if_neg c2] at hno
        obtain ⟨ev, r1, r2⟩ := pp.2 (Bool.eq_false_iff.mpr c2)
        rw [ev]
        (first | refine ⟨fun _ => ?_, fun n_ => absurd (show (0 : Int32) = 0 by rfl) n_⟩ | refine ⟨fun n_ => absurd (show (0 : Int32) = 0 by rfl) n_, fun _ => ?_⟩ | refine ⟨fun y_ => absurd y_ (show (0 : Int32) = 0 by rfl), fun _ => ?_⟩ | refine ⟨fun _ => ?_, fun y_ => absurd y_ (show (0 : Int32) = 0 by rfl)⟩)
        exact hno h23 (Bool.eq_false_iff.mpr c2) r1 r2
    · have c6 : ¬ cs i = 6 := fun y => z (by rw [w6.mpr y]; rfl)
      rw [if_neg (by simp [c6])] at hok
      exact c_fix (.inr rfl) (by omega) p (fun h' c' A => ⟨rfl, A.1.1.1, hok h' q c' wd rfl A⟩)
end CR
