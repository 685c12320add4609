/-! WHAT BOTH SYSTEMS HOLD, over numbers A, lines L, fashion F, law W (as the reference lays them) -/
def isL (x : Int64) : Prop := isC x ∧ x ≠ 0
/-- what is said for a word: the first say of it, 0 without -/
def sayW (W : Nat → Nat) (v : Nat) : Nat → Nat → Nat
  | 0, _ => 0
  | c + 1, i => if W (17 + i) = v then W (5 + i) else sayW W v c (i + 1)
def InW (W : Nat → Nat) : Prop := W 0 ≤ 12 ∧ W 1 ≤ 99 ∧ W 2 ≤ 99 ∧ W 3 ≤ 99 ∧ W 4 ≤ 12 ∧ ∀ i, i < W 4 → (1 ≤ W (5 + i) ∧ W (5 + i) ≤ 255) ∧ (1 ≤ W (17 + i) ∧ W (17 + i) ≤ 255)
def InA (A : Nat → Nat) : Prop := (∀ k, A k ≤ 9999) ∧ A 0 ≤ 40 ∧ (∀ i, i < 40 → A (121 + i) ≤ 12) ∧ A 162 ≤ 60 ∧ A 223 ≤ 12 ∧ (∀ i, i < 12 → A (236 + i) ≤ 12) ∧ (1 ≤ A 249 ∧ A 249 ≤ A 248 ∧ A 248 ≤ 100) ∧ A 506 ≤ 20 ∧ A 547 ≤ 60 ∧ A 848 ≤ 20 ∧ A 889 ≤ 40 ∧ A 970 ≤ 8 ∧ A 987 ≤ 8
def InB (A : Nat → Nat) : Prop := (∀ i, i < A 987 → A (988 + i) ≤ 99) ∧ (∀ i g, i < A 987 → g < 16 → A (996 + 16 * i + g) ≤ 3) ∧ (∀ i, i < A 547 → A (668 + i) ≤ 9) ∧ (∀ i, i < A 970 → A (971 + i) ≤ A (979 + i)) ∧ A 250 = 0
def InL (A : Nat → Nat) (L : Nat → Int64) : Prop := (∀ i k, i < A 0 → k < A (121 + i) → isL (L (12 * i + k))) ∧ (∀ i k, i < A 223 → k < A (236 + i) → isL (L (540 + 12 * i + k))) ∧ (∀ p, p < A 162 → isL (L (480 + p))) ∧ (∀ v, v < A 506 → isL (L (684 + v)) ∧ isL (L (704 + v))) ∧ (∀ i, i < A 547 → isC (L (724 + i)))
def RSong (A : Nat → Nat) (L : Nat → Int64) (F : Nat → Nat) (s : Nat) (w : jWd) : Prop := wI w (s + 1) 2 = nI (A 0) ∧ ∀ i, i < A 0 → wI w (s + 2) i = nI (A (1 + i)) ∧ wI w (s + 4) i = nI (A (81 + i)) ∧ wI w (s + 5) i = nI (A (121 + i)) ∧ ∀ k, k < A (121 + i) → wJ w (s + 7) (12 * i + k) = L (12 * i + k) ∧ wJ w (s + 29) (12 * i + k) = smS F (A (1 + i)) (L (12 * i + k))
def RBook (A : Nat → Nat) (L : Nat → Int64) (s : Nat) (w : jWd) : Prop := wI w (s + 8) 2 = nI (A 223) ∧ ∀ i, i < A 223 → wI w (s + 9) i = nI (A (224 + i)) ∧ wI w (s + 12) i = nI (A (236 + i)) ∧ ∀ k, k < A (236 + i) → wJ w (s + 14) (12 * i + k) = L (540 + 12 * i + k)
def RPrint (A : Nat → Nat) (L : Nat → Int64) (s : Nat) (w : jWd) : Prop := wI w (s + 18) 0 = nI (A 161) ∧ wI w (s + 19) 0 = nI (A 162) ∧ ∀ p, p < A 162 → wI w (s + 20) p = nI (A (163 + p)) ∧ wJ w (s + 21) p = L (480 + p)
def RVers (A : Nat → Nat) (L : Nat → Int64) (s : Nat) (w : jWd) : Prop := wI w (s + 22) 2 = nI (A 506) ∧ ∀ v, v < A 506 → wI w (s + 23) v = nI (A (527 + v)) ∧ wI w (s + 25) v = nI (A (507 + v)) ∧ wI w (s + 26) v = nI 2 ∧ wJ w (s + 28) (2 * v) = L (684 + v) ∧ wJ w (s + 28) (2 * v + 1) = L (704 + v)
def RYear (A : Nat → Nat) (s : Nat) (w : jWd) : Prop := ∀ k, k < 256 → wI w (s + 30) k = nI (A (250 + k))
def RLaw (W : Nat → Nat) (s : Nat) (w : jWd) : Prop := wI w (s + 38) 0 = nI (W 0) ∧ wI w (s + 38) 1 = nI (W 1) ∧ wI w (s + 38) 2 = nI (W 2) ∧ wI w (s + 38) 3 = nI (W 3) ∧ wI w (s + 39) 0 = nI 0 ∧ ∀ v, 1 ≤ v → v < 256 → wI w (s + 39) v = nI (sayW W v (W 4) 0)
def RAns (A : Nat → Nat) (L : Nat → Int64) (s : Nat) (w : jWd) : Prop := wI w (s + 40) 0 = nI (A 547) ∧ ∀ i, i < A 547 → wI w (s + 41) i = nI (A (548 + i)) ∧ wI w (s + 42) i = nI (A (608 + i)) ∧ wI w (s + 43) i = nI (A (668 + i)) ∧ wI w (s + 44) i = nI (A (728 + i)) ∧ wI w (s + 45) i = nI (A (788 + i)) ∧ wJ w (s + 46) i = L (724 + i)
def RWork (A : Nat → Nat) (s : Nat) (w : jWd) : Prop := wI w (s + 47) 0 = nI (A 848) ∧ wI w (s + 47) 1 = nI (A 889) ∧ wI w (s + 47) 2 = nI (A 970) ∧ (∀ i, i < A 848 → wI w (s + 48) i = nI (A (849 + i)) ∧ wI w (s + 49) i = nI (A (869 + i))) ∧ (∀ i, i < A 889 → wI w (s + 50) i = nI (A (890 + i)) ∧ wI w (s + 51) i = nI (A (930 + i))) ∧ ∀ i, i < A 970 → wI w (s + 52) i = nI (A (971 + i)) ∧ wI w (s + 53) i = nI (A (979 + i))
def RWorld (A : Nat → Nat) (s : Nat) (w : jWd) : Prop := wI w (s + 54) 0 = nI (A 987) ∧ (∀ i, i < A 987 → wI w (s + 55) i = nI (A (988 + i)) ∧ ∀ g, g < 16 → wI w (s + 56) (16 * i + g) = nI (A (996 + 16 * i + g))) ∧ ∀ i, A 987 ≤ i → i < 8 → ∀ g, g < 16 → wI w (s + 56) (16 * i + g) = nI 0
def RBnd (A : Nat → Nat) (s : Nat) (w : jWd) : Prop := wI w s 11 = nI (A 248) ∧ wI w s 12 = nI (A 249)
/-- a State of the class -/
def RX (A : Nat → Nat) (L : Nat → Int64) (F W : Nat → Nat) (s : Nat) (w : jWd) : Prop := RSong A L F s w ∧ RBook A L s w ∧ RPrint A L s w ∧ RVers A L s w ∧ RYear A s w ∧ FX F (s + 31) w ∧ RLaw W s w ∧ RAns A L s w ∧ RWork A s w ∧ RWorld A s w ∧ RBnd A s w
/-- what a State's piles never change -/
def RCon (s : Nat) (w : jWd) : Prop := wI w (s + 1) 0 = nI 40 ∧ wI w (s + 1) 1 = nI 12 ∧ wI w (s + 8) 0 = nI 12 ∧ wI w (s + 8) 1 = nI 12 ∧ wI w (s + 15) 0 = nI 1 ∧ wI w (s + 15) 1 = nI 60 ∧ wI w (s + 15) 2 = nI 1 ∧ wI w (s + 22) 0 = nI 20 ∧ wI w (s + 22) 1 = nI 2
/-- the reference's rows from o on -/
def RM (A : Nat → Nat) (L : Nat → Int64) (F W : Nat → Nat) (o : Nat) (w : jWd) : Prop := (∀ k, k < 1124 → wI w 207 (1124 * o + k) = nI (A k)) ∧ (∀ k, k < 784 → wJ w 208 (784 * o + k) = L k) ∧ (∀ k, k < 645 → wI w 211 (645 * o + k) = nI (F k)) ∧ ∀ k, k < 29 → wI w 212 (29 * o + k) = nI (W k)
def In (A : Nat → Nat) (L : Nat → Int64) (F W : Nat → Nat) : Prop := InA A ∧ InB A ∧ InL A L ∧ InF F ∧ InW W
/-- what a call finds: the State that is now, on both sides -/
def RN (A : Nat → Nat) (L : Nat → Int64) (F W : Nat → Nat) (w : jWd) : Prop := In A L F W ∧ RX A L F W 1 w ∧ RCon 1 w ∧ RM A L F W 0 w
/-- an image: none on both sides, or one on both -/
def RIm (i : Nat) (w : jWd) : Prop := (wI w 181 i = nI 0 ∧ wI w 209 i = nI 0) ∨ (wI w 181 i = nI 1 ∧ wI w 209 i = nI 1 ∧ ∃ A L F W, In A L F W ∧ RX A L F W (61 + 60 * i) w ∧ RM A L F W (i + 1) w)
/-- the rest: counts of what was refused, THE TAPE, the latest FAULT, ROWS -/
def RRef (w : jWd) : Prop := ∀ k, 1 ≤ k → k ≤ 7 → wI w 204 k = wI w 206 k
def RTape (w : jWd) : Prop := ∃ n : Nat, n ≤ 400 ∧ wI w 0 8 = nI n ∧ wI w 205 9 = nI n ∧ ∀ k, k < n → ∃ b : Nat, b < 256 ∧ wI w 213 k = nI b ∧ wI w 202 k = (nI b).toInt8.toInt32
def RFlt (w : jWd) : Prop := wI w 189 2 = wI w 205 19 ∧ wI w 205 20 = if wI w 189 2 = 0 then (-1 : Int32) else wI w 189 3
def RRow (w : jWd) : Prop := ∀ r, r < 4 → (wI w 186 r = -1 ∧ wI w 221 r = -1) ∨ (∃ n s : Nat, n ≤ 60 ∧ s ≤ 3 ∧ wI w 186 r = nI n ∧ wI w 187 r = nI s ∧ wI w 221 r = nI s ∧ wI w 222 r = nI n ∧ ∀ k, k < n → wJ w 188 (60 * r + k) = wJ w 223 (60 * r + k))
def RR (w : jWd) : Prop := (∃ A L F W, RN A L F W w) ∧ RIm 0 w ∧ RIm 1 w ∧ RCon 61 w ∧ RCon 121 w ∧ RRef w ∧ RTape w ∧ RFlt w ∧ RRow w
