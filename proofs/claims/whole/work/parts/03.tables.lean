/-! tables over sets below 256, and bits of Int32 -/
theorem tm_xb : ∀ s, s < 256 → ∀ j, j < 8 → ((nI s &&& ((1 : Int32) <<< (nI j &&& 31))) = 0 ↔ ¬ s.testBit j = true) := by decide +kernel
theorem tm_xm : ∀ s, s < 256 → ∀ j, j < 8 → ((nI s &&& ((1 : Int32) <<< (nI j &&& 31))) = ((1 : Int32) <<< (nI j &&& 31)) ↔ s.testBit j = true) := by decide +kernel
theorem tm_yb : ∀ s, s < 256 → ∀ j, j < 8 → ((nI s >>> (nI j &&& 31)) &&& 1) = nI (tm_d s j) := by decide +kernel
theorem tm_or : ∀ p, p < 256 → ∀ j, j < 8 → (nI p ||| ((1 : Int32) <<< (nI j &&& 31))) = nI (p ||| 2 ^ j) ∧ (p ||| 2 ^ j) < 256 := by decide +kernel
theorem tm_and : ∀ p, p < 256 → ∀ j, j < 8 → (nI p &&& (((1 : Int32) <<< (nI j &&& 31)) ^^^ (-1))) = nI (p &&& (255 - 2 ^ j)) ∧ (p &&& (255 - 2 ^ j)) < 256 := by decide +kernel
theorem tm_jb1 : ∀ p, p < 256 → ∀ j, j < 8 → p.testBit j = true → (nI (p % 2 ^ j) ||| ((1 : Int32) <<< (nI j &&& 31))) = nI (p % 2 ^ (j + 1)) := by decide +kernel
theorem tm_jb0 : ∀ p, p < 256 → ∀ j, j < 8 → ¬ p.testBit j = true → p % 2 ^ j = p % 2 ^ (j + 1) := by decide +kernel
theorem tm_low : ∀ x, x < 256 → ∀ i, i < 8 → x.testBit i = true → (∀ k, k < i → x.testBit k = false) → (nI x &&& (-(nI x))) = ((1 : Int32) <<< (nI i &&& 31)) := by decide +kernel
theorem tm_255 : ∀ s, s < 256 → (nI s &&& 255) = nI s := by decide +kernel
theorem tm_c255 : ∀ j, j < 8 → ∀ i, i < 8 → (255 - 2 ^ j).testBit i = decide (j ≠ i) := by decide +kernel
theorem tm_lt (x : Int32) {p : Nat} (hp : p < 256) : ∃ s, s < 256 ∧ x &&& nI p = nI s := by
  obtain ⟨m, _, rfl⟩ := wb_of32 x
  exact ⟨m &&& p, Nat.lt_of_le_of_lt Nat.and_le_right hp, nx_and m p⟩
theorem tm_notbit (x : Int32) {i : Nat} (hi : i < 32) : bt (x ^^^ (-1)) i = !(bt x i) := by rw [b_xor, b_m1 i hi, Bool.xor_true]
theorem tm_sub_eq {x P : Int32} (h : (x &&& (P ^^^ (-1))) = 0) : x &&& P = x := by
  apply b_ext
  intro i hi
  have e : bt (x &&& (P ^^^ (-1))) i = bt 0 i := by rw [h]
  rw [b_and, tm_notbit P hi, b_0] at e
  rw [b_and]
  revert e
  cases bt x i <;> cases bt P i <;> decide
theorem tm_sub_and (x P : Int32) : ((x &&& P) &&& (P ^^^ (-1))) = 0 := by
  apply b_ext
  intro i hi
  rw [b_and, b_and, tm_notbit P hi, b_0]
  cases bt x i <;> cases bt P i <;> decide
theorem tm_mst (S M : Int32) : (S &&& M) = M ↔ (M &&& (S ^^^ (-1))) = 0 := by
  constructor
  · intro h
    rw [← h]
    apply b_ext
    intro i hi
    rw [b_and, b_and, tm_notbit S hi, b_0]
    cases bt S i <;> cases bt M i <;> decide
  · intro h
    rw [Int32.and_comm]
    exact tm_sub_eq h
theorem tm_sub_lt {x : Int32} {p : Nat} (hp : p < 256) (h : (x &&& (nI p ^^^ (-1))) = 0) : ∃ s, s < 256 ∧ x = nI s := by
  obtain ⟨s, hs, e⟩ := tm_lt x hp
  exact ⟨s, hs, (tm_sub_eq h).symm.trans e⟩
theorem tm_or_bit {p j i : Nat} : (p ||| 2 ^ j).testBit i = (p.testBit i || decide (j = i)) := by rw [Nat.testBit_or, Nat.testBit_two_pow]
theorem tm_and_bit {p j i : Nat} (hj : j < 8) (hi : i < 8) : (p &&& (255 - 2 ^ j)).testBit i = (p.testBit i && decide (j ≠ i)) := by rw [Nat.testBit_and, tm_c255 j hj i hi]
