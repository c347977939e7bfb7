/-! ===== what holds between the class and the model ===== -/
def cp3 (A : Nat → Nat) (h : ah_T) (t c o room many base : Nat) : Prop :=
  ah_i h t 0 = nI room ∧ ah_i h t 1 = nI 3 ∧ ah_i h t 3 = nI (A many) ∧ ah_i h c (o + many) = nI (A many) ∧ A many ≤ room ∧
  ∀ j, j < 3 * A many → ah_i h (t + 1) j = nI (A (base + j)) ∧ ah_i h c (o + (base + j)) = nI (A (base + j)) ∧ A (base + j) < 256
def cpL1 (A : Nat → Nat) (h : ah_T) (t c o l : Nat) : Prop :=
  ah_i h (t + 1) (19 * l) = nI (A (162 + 19 * l)) ∧ ah_i h (t + 1) (19 * l + 1) = nI (A (163 + 19 * l)) ∧ ah_i h (t + 1) (19 * l + 2) = nI (A (165 + 19 * l)) ∧ ah_i h (t + 1) (19 * l + 3) = nI (A (164 + 19 * l) - 1) ∧
  (∀ i, i < A (164 + 19 * l) - 1 → ah_i h (t + 1) (19 * l + (4 + i)) = nI (A (166 + 19 * l + i))) ∧
  ah_i h c (o + (162 + 19 * l)) = nI (A (162 + 19 * l)) ∧ ah_i h c (o + (163 + 19 * l)) = nI (A (163 + 19 * l)) ∧ ah_i h c (o + (164 + 19 * l)) = nI (A (164 + 19 * l)) ∧
  (∀ i, i < A (164 + 19 * l) → ah_i h c (o + (165 + 19 * l + i)) = nI (A (165 + 19 * l + i)))
def cpL (A : Nat → Nat) (h : ah_T) (t c o : Nat) : Prop :=
  ah_i h t 0 = nI 2 ∧ ah_i h t 1 = nI 19 ∧ ah_i h t 3 = nI (A 248) ∧ ah_i h c (o + 248) = nI (A 248) ∧ ∀ l, l < A 248 → cpL1 A h t c o l
def cpT (A : Nat → Nat) (h : ah_T) (t c o : Nat) : Prop := ∀ j, j < 3 → ah_i h t j = nI (A (242 + j)) ∧ ah_i h c (o + (242 + j)) = nI (A (242 + j))
/-- every text that a town's row of laws holds is one -/
def lkB (h : ah_T) (b : Nat) : Prop := ∀ t x, ah_r h (b + 14) t = some x → 123 ≤ x ∧ x + 4 ≤ ah_x h ∧ ah_k h x = 9 ∧ ah_k h (x + 1) = 14 ∧ ah_k h (x + 2) = 14 ∧ ah_k h (x + 3) = 14
/-- the laws: TX says that a text of the class is a row of words of the model's (its codes, values, how many) -/
def cpW (TX : ah_T → Nat → (Nat → Nat) → (Nat → Nat) → Nat → Prop) (A : Nat → Nat) (h : ah_T) (b c o : Nat) : Prop :=
  ah_i h b 8 = nI (A 251) ∧ ah_i h b 9 = nO (A 252) ∧ ah_i h c (o + 251) = nI (A 251) ∧ ah_i h c (o + 252) = nO (A 252) ∧
  (∀ t, t < A 251 → ah_i h c (o + (253 + t)) = nI (A (253 + t)) ∧ (∀ k, k < A (253 + t) → ah_i h c (o + (260 + 400 * t + k)) = nI (A (260 + 400 * t + k)) ∧ ah_i h c (o + (3060 + 400 * t + k)) = nI (A (3060 + 400 * t + k))) ∧
    ∃ x, ah_r h (b + 14) t = some x ∧ TX h x (fun k => A (260 + 400 * t + k)) (fun k => A (3060 + 400 * t + k)) (A (253 + t))) ∧ lkB h b
def Tn (TX : ah_T → Nat → (Nat → Nat) → (Nat → Nat) → Nat → Prop) (A : Nat → Nat) (h : ah_T) (b c o : Nat) : Prop :=
  cp3 A h (b + 1) c o 20 245 0 ∧ cp3 A h (b + 3) c o 10 246 60 ∧ cp3 A h (b + 5) c o 24 247 90 ∧ cpL A h (b + 7) c o ∧ cp3 A h (b + 9) c o 6 249 200 ∧ cp3 A h (b + 11) c o 8 250 218 ∧ cpT A h (b + 13) c o ∧ cpW TX A h b c o
def wfW (A : Nat → Nat) : Prop := A 245 ≤ 20 ∧ (∀ w, w < A 245 → A (3 * w) < A (3 * w + 1) ∧ A (3 * w + 1) < 12 ∧ A (3 * w + 2) ≤ 1) ∧ ∀ w v, w < A 245 → v < w → ¬ (A (3 * w) = A (3 * v) ∧ A (3 * w + 1) = A (3 * v + 1))
def wfL (A : Nat → Nat) : Prop := A 246 ≤ 10 ∧ ∀ l, l < A 246 → A (60 + 3 * l) < 12 ∧ A (61 + 3 * l) < 6 ∧ 1 ≤ A (62 + 3 * l) ∧ A (62 + 3 * l) ≤ 240
def wfS (A : Nat → Nat) : Prop := A 247 ≤ 24 ∧ ∀ s, s < A 247 → A (90 + 3 * s) < A 246 ∧ A (91 + 3 * s) < 120 ∧ A (92 + 3 * s) ≤ 1
def wfN (A : Nat → Nat) : Prop := A 248 ≤ 2 ∧ ∀ l, l < A 248 → A (162 + 19 * l) < 6 ∧ A (163 + 19 * l) < 120 ∧ 1 ≤ A (164 + 19 * l) ∧ A (164 + 19 * l) ≤ 16 ∧ ∀ i, i < A (164 + 19 * l) → A (165 + 19 * l + i) < 12
def wfE (A : Nat → Nat) : Prop := A 249 ≤ 6 ∧ ∀ e, e < A 249 → A (200 + 3 * e) < 12 ∧ A (201 + 3 * e) ≤ A (202 + 3 * e) ∧ A (202 + 3 * e) < 120
def wfO (A : Nat → Nat) : Prop := A 250 ≤ 8 ∧ ∀ s, s < A 250 → A (218 + 3 * s) < A 246 ∧ A (219 + 3 * s) < 120 ∧ A (220 + 3 * s) ≤ 1
def wfT (A : Nat → Nat) : Prop := A 242 ≤ 9 ∧ 1 ≤ A 243 ∧ A 243 ≤ 9 ∧ A 244 ≤ 9
def wfX (A : Nat → Nat) : Prop := A 251 ≤ 6 ∧ A 252 ≤ A 251 ∧ ∀ t, t < A 251 → A (253 + t) ≤ 400 ∧ ∀ k, k < A (253 + t) → A (260 + 400 * t + k) < 400 ∧ A (3060 + 400 * t + k) < 2 ^ 31
def WF (A : Nat → Nat) : Prop := wfW A ∧ wfL A ∧ wfS A ∧ wfN A ∧ wfE A ∧ wfO A ∧ wfT A ∧ wfX A
/-- a number of eight bits, as the model's row of bytes gives it -/
def sB (b : Nat) : Int32 := if b < 128 then nI b else nI b - 256
def Sc (h : ah_T) : Prop := ah_i h 0 17 = ah_i h 82 0 ∧ ah_i h 18 0 = ah_i h 83 1 ∧ ah_i h 18 1 = ah_i h 83 2 ∧ ah_i h 18 2 = ah_i h 83 3 ∧ ah_i h 18 3 = ah_i h 83 5 ∧ ah_i h 18 4 = ah_i h 83 6 ∧ ah_i h 0 15 = ah_i h 82 6 ∧ ah_i h 0 14 = ah_i h 82 12 ∧ ah_i h 0 16 = ah_i h 82 66
def Tp (n : Nat) (D : Nat → Nat) (h : ah_T) : Prop := n ≤ 400 ∧ ah_i h 0 13 = nI n ∧ ah_i h 82 11 = nI n ∧ ∀ j, j < n → D j < 256 ∧ ah_i h 17 j = nI (D j) ∧ ah_i h 88 j = sB (D j)
def Dr (h : ah_T) : Prop := (ah_i h 82 77 = 0 ∧ ah_i h 19 0 = -1) ∨ (ah_i h 82 77 = 1 ∧ ∀ j, j < 120 → ∃ p, p < 12 ∧ ah_i h 19 j = nI p ∧ ah_i h 122 j = nI p)
/-- the cells of an image: as those of the town itself -/
def iK : List Nat := [10, 7, 14, 7, 14, 7, 14, 7, 14, 7, 14, 7, 14, 14, 17]
def iN : List Nat := [0, 0, 60, 0, 30, 0, 72, 0, 38, 0, 18, 0, 24, 3, 6]
def iR (h : ah_T) (b : Nat) : Prop := 123 ≤ b ∧ b + 15 ≤ ah_x h ∧ (∀ i, i < 15 → ah_k h (b + i) = iK.getD i 0 ∧ (12 < iK.getD i 0 → ah_n h (b + i) = iN.getD i 0)) ∧
  (∀ i, i < 6 → ah_r h b i = some (b + (2 * i + 1)) ∧ ah_r h (b + (2 * i + 1)) 2 = some (b + (2 * i + 2))) ∧ ah_r h b 6 = some (b + 13) ∧ ah_r h b 7 = some (b + 14)
def Im1 (TX : ah_T → Nat → (Nat → Nat) → (Nat → Nat) → Nat → Prop) (B : Nat → Nat) (h : ah_T) (k : Nat) : Prop :=
  (ah_i h 86 k = 0 ∧ ah_r h 16 k = none) ∨ (ah_i h 86 k = 1 ∧ ∃ b, ah_r h 16 k = some b ∧ iR h b ∧ Tn TX B h b 85 (5860 * k) ∧ WF B)
def Im (TX : ah_T → Nat → (Nat → Nat) → (Nat → Nat) → Nat → Prop) (B0 B1 : Nat → Nat) (h : ah_T) : Prop := Im1 TX B0 h 0 ∧ Im1 TX B1 h 1 ∧ ∀ b, ah_r h 16 0 = some b → ¬ ah_r h 16 1 = some b
def Inv (TX : ah_T → Nat → (Nat → Nat) → (Nat → Nat) → Nat → Prop) (CC : (Nat → Nat) → ah_T → Prop) (CM : Nat → (Nat → Nat) → ah_T → Prop) (n : Nat) (h : ah_T) : Prop :=
  Sh h ∧ ∃ (A B0 B1 : Nat → Nat) (d : Nat) (D : Nat → Nat), WF A ∧ Tn TX A h 1 84 0 ∧ Im TX B0 B1 h ∧ Sc h ∧ Tp d D h ∧ Dr h ∧ CC A h ∧ CM n A h
