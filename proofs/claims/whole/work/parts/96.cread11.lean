/-! ===== the class's reader of texts; what a text is ===== -/
theorem sh_R_lt : sh_R.all (fun q => decide (q.1 < 123)) = true := by decide +kernel
theorem sh_sr2 {h : ah_T} {a j : Nat} {x : Option Nat} (hs : Sh h) (ha : 123 ≤ a) : Sh (ah_sr h a j x) := by
  refine sh_sr hs (List.all_eq_true.mpr (fun q hq => ?_))
  have := of_decide_eq_true (List.all_eq_true.mp sh_R_lt q hq)
  have e : (q.1 == a) = false := by rw [beq_eq_false_iff_ne]; omega
  rw [e]
  rfl
/-- a new row that is a copy -/
def cpd (h h' : ah_T) (a m : Nat) : Prop := Sh h' ∧ ah_x h' = ah_x h + 1 ∧ (∀ b, b ≠ ah_x h → eqc h h' b) ∧ ah_k h' (ah_x h) = 14 ∧ ah_n h' (ah_x h) = m ∧ ∀ j, j < m → ah_i h' (ah_x h) j = ah_i h a j
theorem c_copyOf {Q : Option Value → ah_T → Prop} {h : ah_T} (hs : Sh h) {a m : Nat} {x : Int32} (ex : x = nI m) (ka : ah_k h a = 14) (hm : m ≤ ah_n h a) (hn : ah_n h a ≤ 500) (ax : a < ah_x h) (hq : ∀ h', cpd h h' a m → Q (some (va_rf (some (ah_x h)))) h') : Mt mJ7_copyOf_59c91 [.ref a, .int x] h Q := by
  subst ex
  have ne : a ≠ ah_x h := by omega
  refine T_J7_copyOf_59c91 hs a _ ka ⟨fun z => ⟨nI_pos (by omega), by rw [nI_clamp (by omega)]; omega, ?_⟩, fun z => ⟨by omega, ?_⟩⟩
  · rintro w4 rfl h6 rfl
    have e1 : ah_n (ah_nw h 14 (nI m).toNatClampNeg) a = ah_n h a := by rw [ah_n_nw, if_neg ne]
    have e2 : (if nI m < Int32.ofNat (ah_n (ah_nw h 14 (nI m).toNatClampNeg) a) then nI m else Int32.ofNat (ah_n (ah_nw h 14 (nI m).toNatClampNeg) a)) = nI m := by
      rw [e1, nI_ofNat]
      by_cases c : m < ah_n h a
      · rw [if_pos (nI_lt c (by omega))]
      · rw [if_neg (nI_nlt (by omega) (by omega)), show ah_n h a = m by omega]
    rw [e2, e1]
    have z0 : Int32.toNatClampNeg 0 = 0 := rfl
    rw [z0, nI_clamp (by omega)]
    refine ⟨ne, nI_pos (by omega), by omega, by rw [ah_n_nw, if_pos rfl]; omega, ?_⟩
    rintro h16 rfl
    refine hq _ ⟨sh_sa (sh_nw hs), by rw [ah_x_sa, ah_x_nw], fun b hb => eqc_sa (eqc_nw eqc_rfl hb) hb, by rw [ah_k_sa, ah_k_nw, if_pos rfl], by rw [ah_n_sa, ah_n_nw, if_pos rfl], fun j hj => ?_⟩
    rw [ah_i_sa, if_pos rfl]
    unfold va_cpy
    rw [if_pos (by omega), ah_i_nw, if_neg ne]
    congr 1
    omega
  · rintro w22 rfl h24 rfl
    have hm2 : m = ah_n h a := (nI_eq (by omega) (by omega)).mp z
    refine ⟨ne, hq _ ⟨sh_sa (sh_nw hs), by rw [ah_x_sa, ah_x_nw], fun b hb => eqc_sa (eqc_nw eqc_rfl hb) hb, by rw [ah_k_sa, ah_k_nw, if_pos rfl], by rw [ah_n_sa, ah_n_nw, if_pos rfl, hm2], fun j hj => by rw [ah_i_sa, if_pos rfl]⟩⟩
/-- a clause as a text has it: its columns, the code, the words -/
def clO (ro : Bool) (f : Nat → Int32) (c : Nat → Nat) (q : Nat) (u : Nat → Int32) (cl : Cl) : Prop :=
  f 0 = nI cl.1 ∧ cl.1 < 5 ∧ cS1 (f 1) c q cl.2.1 ∧ cS1 (f 2) c q cl.2.2.1 ∧ cS1 (f 3) c q cl.2.2.2.1 ∧ (ro = true → f 4 = nI cl.2.2.2.2.1) ∧ cT1 (f 5) c q cl.2.2.2.2.2 ∧ (ro = false → dpS cl.2.1 (u cl.1) ∧ dpT cl.2.2.2.2.2 (u cl.1))
/-- a text of the class -/
def tx (h : ah_T) (x : Nat) (ro : Bool) (cls : List Cl) : Prop :=
  (123 ≤ x ∧ x + 4 ≤ ah_x h ∧ ah_k h x = 9 ∧ ah_k h (x + 1) = 14 ∧ ah_k h (x + 2) = 14 ∧ ah_k h (x + 3) = 14) ∧ ah_r h x 0 = some (x + 1) ∧ ah_r h x 1 = some (x + 2) ∧ ah_r h x 3 = some (x + 3) ∧ ah_i h x 2 = nI cls.length ∧ cls.length ≤ 12 ∧ ah_n h (x + 2) = 6 * cls.length ∧ ah_n h (x + 3) = 5 ∧
  ∃ (c : Nat → Nat) (q : Nat), q ≤ 500 ∧ ah_n h (x + 1) = q ∧ (∀ k, k < q → ah_i h (x + 1) k = nI (c k) ∧ c k < 65536) ∧ ∀ k, k < cls.length → clO ro (fun j => ah_i h (x + 2) (6 * k + j)) c q (fun v => ah_i h (x + 3) v) (cls.getD k cl0)
section CL
variable {cs vs pl : Nat → Nat} {n : Nat} {ro : Bool} {h0 h : ah_T}
theorem isVof_0 (ro : Bool) : isVof ro 0 = false := by cases ro <;> rfl
theorem tkA_99 (t : Ck cs vs (isVof ro) n h) {k : Nat} (hk : k ≤ n) : nI (tkA cs vs n k) = 99 ↔ n ≤ k := by
  have tl := tkA_le t hk
  rw [n_99, nI_eq (by omega) (by omega)]
  unfold tkA
  rcases Nat.lt_or_ge k n with z | z
  · rw [if_pos z]
    have hc := (t.2.2.2.1 k z).2
    unfold tkO
    constructor
    · intro y
      exfalso
      split at y
      · omega
      · split at y
        · omega
        · have := (wdL_lt (cs k) (by omega)).1
          omega
    · intro y; omega
  · rw [if_neg (by omega)]
    exact ⟨fun _ => z, fun _ => rfl⟩
def hdOf (ro : Bool) (cs vs : Nat → Nat) : Nat → Nat → pR Cl := if ro then pRnH cs vs (isVof ro) else pLwH cs vs (isVof ro)
theorem oneOf_eq (ro : Bool) (i lv : Nat) : oneOf ro cs vs i lv = pB (hdOf ro cs vs i lv) cl0 fun c j l => pMp (setT c) (pIf cs vs (isVof ro) j l) := by
  cases ro
  · exact pLaw_eq cs vs _ i lv
  · exact pRnd_eq cs vs _ i lv
/-- the clauses that were laid -/
def laid (ro : Bool) (T : Nat → Int32) (c : Nat → Nat) (q : Nat) (U : Nat → Int32) (acc : List Cl) : Prop := ∀ k, k < acc.length → clO ro (fun j => T (6 * k + j)) c q U (acc.getD k cl0)
theorem dep_or {m : Mg} {a b : Int32} (d : dep m b) : dep m (a ||| b) := dep_mono d (fun j hj e => by rw [b_or, e, Bool.or_true])
theorem depT_or {m : Tg} {a b : Int32} (d : depT m b) : depT m (a ||| b) := depT_mono d (fun j hj e => by rw [b_or, e, Bool.or_true])
theorem clO_g {f f' : Nat → Int32} {q q' : Nat} {c c' : Nat → Nat} {wd wd' : Int32} {u : Nat → Int32} {cl : Cl} {v : Nat} {w : Int32} (g : gX q c wd q' c' wd') (hf : ∀ j, j < 6 → f' j = f j) (o : clO ro f c q u cl) : clO ro f' c' q' (up32 u v (u v ||| w)) cl := by
  obtain ⟨o1, o2, o3, o4, o5, o6, o7, o8⟩ := o
  refine ⟨by rw [hf 0 (by omega)]; exact o1, o2, by rw [hf 1 (by omega)]; exact cS1_g g o3, by rw [hf 2 (by omega)]; exact cS1_g g o4, by rw [hf 3 (by omega)]; exact cS1_g g o5, fun e => by rw [hf 4 (by omega)]; exact o6 e, by rw [hf 5 (by omega)]; exact cT1_g g o7, fun e => ?_⟩
  obtain ⟨o9, o10⟩ := o8 e
  by_cases z : cl.1 = v
  · rw [← z, up32_s]
    exact ⟨fun m hm => dep_mono (o9 m hm) (fun j hj e => by rw [b_or, e, Bool.true_or]), fun m hm => depT_mono (o10 m hm) (fun j hj e => by rw [b_or, e, Bool.true_or])⟩
  · rw [up32_n z]
    exact ⟨o9, o10⟩
theorem rS_25 {i q lv j : Nat} {c : Nat → Nat} {wd x : Int32} {T U : Nat → Int32} (r : rS h0 h i q lv c wd T U) : rS h0 (ah_si h 25 j x) i q lv c wd T (up32 U j x) := by
  obtain ⟨r1, r2, r3, r4, r5, r6, r7, r8⟩ := r
  refine ⟨rFr_set r1 (.inr (.inl rfl)), by rw [ah_i_sn (by omega)]; exact r2, by rw [ah_i_sn (by omega)]; exact r3, by rw [ah_i_sn (by omega)]; exact r4, by rw [ah_i_sn (by omega)]; exact r5, fun k hk => by rw [ah_i_sn (by omega)]; exact r6 k hk, fun k => by rw [ah_i_sn (by omega)]; exact r7 k, fun k => ?_⟩
  unfold up32
  rw [ah_i_si]
  by_cases e : k = j
  · rw [if_pos ⟨rfl, e⟩, if_pos e]
  · rw [if_neg (fun z => e z.2), if_neg e]; exact r8 k
theorem rS_10 {i q lv : Nat} {c : Nat → Nat} {wd x : Int32} {T U : Nat → Int32} (r : rS h0 h i q lv c wd T U) : rS h0 (ah_si h 20 10 x) i q lv c x T U := by
  obtain ⟨r1, r2, r3, r4, r5, r6, r7, r8⟩ := r
  exact ⟨rFr_set r1 (.inr (.inr (.inr ⟨rfl, by decide⟩))), by rw [ah_i_sn (by omega)]; exact r2, by rw [ah_i_sn (by omega)]; exact r3, by rw [ah_i_sn (by omega)]; exact r4, by rw [ah_i_ss], fun k hk => by rw [ah_i_sn (by omega)]; exact r6 k hk, fun k => by rw [ah_i_sn (by omega)]; exact r7 k, fun k => by rw [ah_i_sn (by omega)]; exact r8 k⟩
/-- behind the reader: a text, or none with its fault -/
def wFr (h0 h : ah_T) : Prop := Sh h ∧ ah_x h0 ≤ ah_x h ∧ ∀ a, a < ah_x h0 → a ≠ 20 → a ≠ 23 → a ≠ 24 → a ≠ 25 → eqc h0 h a
def cQ (pl : Nat → Nat) (ro : Bool) (h0 : ah_T) (Q : Option Value → ah_T → Prop) (R : pR (List Cl)) : Prop :=
  (R.1 = true → ∀ h' x, wFr h0 h' → ah_x h' = ah_x h0 + 4 → x = ah_x h0 → ah_i h' 20 0 = -1 → tx h' x ro R.2.2.2 → Q (some (va_rf (some x))) h') ∧
  (R.1 = false → ∀ h', wFr h0 h' → ah_x h' = ah_x h0 → ah_i h' 20 0 = nI (pl R.2.1) → Q (some (va_rf none)) h')
end CL
