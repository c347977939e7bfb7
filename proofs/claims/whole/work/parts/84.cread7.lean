/-! ===== the class's reader: chains of tests ===== -/
section CR
variable {cs vs : Nat → Nat} {isV : Nat → Bool} {n : Nat} {h0 h : ah_T}
theorem cPd_at {o K : Nat} {x : Int32} {i q lv : Nat} {c : Nat → Nat} {wd : Int32} {q0 lv0 : Nat} {c0 : Nat → Nat} {wd0 : Int32} {a : Tg} (p : cPd o K h0 h x i q lv c wd q0 lv0 c0 wd0 a) : cPd o K h0 (ah_si h 20 6 (ah_i h 20 6 + 1)) x (i + 1) q lv c wd q0 lv0 c0 wd0 a := by
  rcases p with ⟨e, p⟩ | ⟨j, lj, y, m, e1, e2, cj, s, r⟩
  · exact .inl ⟨e, cS_at p.1, p.2⟩
  · exact .inr ⟨j, lj, y, m, e1, e2, cj, cS_at s, r⟩
theorem cPd_S {o K : Nat} {x : Int32} {i q lv : Nat} {c : Nat → Nat} {wd : Int32} {q0 lv0 : Nat} {c0 : Nat → Nat} {wd0 : Int32} {a : Tg} (p : cPd o K h0 h x i q lv c wd q0 lv0 c0 wd0 a) : cS h0 h i q lv c wd := by
  rcases p with ⟨e, p⟩ | ⟨j, lj, y, m, e1, e2, cj, s, r⟩
  · exact p.1
  · exact s
/-- behind an element of a chain: the jump waits for it -/
theorem cPd_next {o K sl : Nat} {i q lv : Nat} {c : Nat → Nat} {wd v : Int32} {q0 lv0 : Nat} {c0 : Nat → Nat} {wd0 : Int32} {a : Tg} {r : pR Tg} {hx h1 : ah_T} (hsl : K * 2 ≤ K * 2) (A : cAt K h0 h i q lv c wd q0 lv0 c0 wd0 a) (s1 : cS h0 h1 i (q + 1) lv (up c q o) wd) (e : r.1 = true) (hb : ∀ q', 2 * q' + sl ≤ 2 * (q + 1) + (K - 1) * (r.2.2.1 - lv) → 2 * q' + 2 ≤ 2 * q0 + K * (r.2.2.1 - lv0)) (p : cPt (K - 1) sl h0 r (q + 1) lv (up c q o) wd v hx) : ∃ q' c' wd', cPd o K h0 hx (nI q) r.2.1 q' r.2.2.1 c' wd' q0 lv0 c0 wd0 (cmb o a r.2.2.2) := by
  obtain ⟨_, q', c', wd', s, l0, b, pre, im, bb, dd⟩ := p.1 e
  obtain ⟨a1, a2, a3, a4, a5, a6, a7⟩ := A
  refine ⟨q', c', wd', .inr ⟨q, lv, a, r.2.2.2, rfl, rfl, by rw [pre q (by omega), up_s], s, by omega, by omega, by omega, hb q' b, fun k hk => ?_, ?_, im, fun k hk z => bb k hk (a6 k hk z), depT_mono a7 bb, dd⟩⟩
  · have := a5.1
    rw [pre k (by omega), up_n (by omega)]
    exact a4 k hk
  · exact impT_ext (fun k h1 h2 => by rw [pre k (by omega), up_n (by omega)]) a5
end CR
