section
/-! rows pasted from kit/rows (PURE-ROWS, BITS) -/
theorem pk_us {f : Nat → Int32} {k : Nat} {x : Int32} : upd f k x k = x := if_pos rfl
theorem pk_un {f : Nat → Int32} {k j : Nat} {x : Int32} (h : j ≠ k) : upd f k x j = f j := if_neg h
theorem pk_sub {a b : Nat} (h : b ≤ a) : nI a - nI b = nI (a - b) := by
  obtain ⟨c, rfl⟩ : ∃ c, a = c + b := ⟨a - b, by omega⟩
  rw [← nI_add, Int32.add_sub_cancel, Nat.add_sub_cancel]
theorem pk_m1 (n : Nat) : nI (n + 1) + (-1) = nI n := by
  rw [← nI_1, Int32.add_assoc, show (1 : Int32) + (-1) = 0 from rfl, Int32.add_zero]
theorem pk_sub_toInt {a b : Nat} (ha : a < 2 ^ 30) (hb : b < 2 ^ 30) : (nI a - nI b).toInt = (a : Int) - b := by
  rw [Int32.toInt_sub, nI_toInt (by omega), nI_toInt (by omega)]
  exact Int.bmod_eq_of_le (by omega) (by omega)
theorem pk_ix (x : Int32) {n : Nat} (hn : n < 2 ^ 31) : x < 0 ∨ nI n ≤ x ∨ ∃ j : Nat, j < n ∧ x = nI j := by
  by_cases h : x < 0
  · exact Or.inl h
  · obtain ⟨j, hj, rfl⟩ := nI_of h
    by_cases h2 : j < n
    · exact Or.inr (Or.inr ⟨j, h2, rfl⟩)
    · exact Or.inr (Or.inl (nI_le (by omega) hj))
theorem pk_le {x y : Int32} {A B : Prop} (a b : Nat) (f : a ≤ b → A) (g : b < a → B) (hx : x = nI a := by rfl) (hy : y = nI b := by rfl) (ha : a < 2 ^ 31 := by omega) (hb : b < 2 ^ 31 := by omega) : (x ≤ y → A) ∧ (¬ x ≤ y → B) := by
  subst hx hy
  rw [nI_leI ha hb]
  exact ⟨f, fun z => g (by omega)⟩
theorem pk_lt {x y : Int32} {A B : Prop} (a b : Nat) (f : a < b → A) (g : b ≤ a → B) (hx : x = nI a := by rfl) (hy : y = nI b := by rfl) (ha : a < 2 ^ 31 := by omega) (hb : b < 2 ^ 31 := by omega) : (x < y → A) ∧ (¬ x < y → B) := by
  subst hx hy
  rw [nI_ltI ha hb]
  exact ⟨f, fun z => g (by omega)⟩
theorem pk_eq {x y : Int32} {A B : Prop} (a b : Nat) (f : a = b → A) (g : a ≠ b → B) (hx : x = nI a := by rfl) (hy : y = nI b := by rfl) (ha : a < 2 ^ 31 := by omega) (hb : b < 2 ^ 31 := by omega) : (x = y → A) ∧ (¬ x = y → B) := by
  subst hx hy
  rw [nI_eq ha hb]
  exact ⟨f, g⟩
theorem pk_in {x : Int32} (n N : Nat) (h : n < N) (hx : x = nI n := by rfl) (hN : N < 2 ^ 31 := by omega) : vp_in x N := by
  subst hx
  exact vp_in_nI h hN
theorem pk_cl {x : Int32} (n : Nat) (hx : x = nI n := by rfl) (h : n < 2 ^ 31 := by omega) : x.toNatClampNeg = n := by
  subst hx
  exact nI_clamp h
theorem pk_tn {n : Nat} (h : n < 2 ^ 32) : (nI n).toBitVec.toNat = n := Nat.mod_eq_of_lt h
theorem pk_and (x : Int32) {m : Int32} (k : Nat) (hm : m.toBitVec.toNat = 2 ^ k - 1) : x &&& m = nI (x.toBitVec.toNat % 2 ^ k) := by
  apply Int32.toBitVec_inj.mp
  apply BitVec.eq_of_toNat_eq
  rw [Int32.toBitVec_and, BitVec.toNat_and, hm, Nat.and_two_pow_sub_one_eq_mod]
  show _ = (BitVec.ofNat 32 _).toNat
  rw [BitVec.toNat_ofNat]
  exact (Nat.mod_eq_of_lt (Nat.lt_of_le_of_lt (Nat.mod_le _ _) x.toBitVec.isLt)).symm
theorem pk_loop {σ : Type} (W : Nat → Nat → σ → Prop) (I : Nat → σ → Prop) (e i0 : Nat) (s : σ) (hi : i0 ≤ e) (h0 : I i0 s) (hx : ∀ n s, I e s → W (n + 1) e s)
    (hs : ∀ n i s, i < e → I i s → (∀ s', I (i + 1) s' → W n (i + 1) s') → W (n + 1) i s) : ∃ n, W n i0 s :=
  ⟨e + 1, loop_i W I e hx hs (e + 1) i0 s hi (by omega) h0⟩
theorem pk_least (P : Nat → Prop) (h : ∃ k, P k) : ∃ k, P k ∧ ∀ j, j < k → ¬ P j := by
  obtain ⟨k, hk⟩ := h
  induction k using Nat.strongRecOn with
  | ind k ih =>
    by_cases e : ∃ j, j < k ∧ P j
    · obtain ⟨j, hj, pj⟩ := e
      exact ih j hj pj
    · exact ⟨k, hk, fun j hj pj => e ⟨j, hj, pj⟩⟩
def bt (x : Int32) (i : Nat) : Bool := x.toBitVec.getLsbD i
theorem b_ext {x y : Int32} (h : ∀ i, i < 32 → bt x i = bt y i) : x = y := Int32.toBitVec_inj.mp (BitVec.eq_of_getLsbD_eq (fun i hi => h i hi))
theorem b_or (x y : Int32) (i : Nat) : bt (x ||| y) i = (bt x i || bt y i) := by unfold bt; rw [Int32.toBitVec_or, BitVec.getLsbD_or]
theorem b_and (x y : Int32) (i : Nat) : bt (x &&& y) i = (bt x i && bt y i) := by unfold bt; rw [Int32.toBitVec_and, BitVec.getLsbD_and]
theorem b_xor (x y : Int32) (i : Nat) : bt (x ^^^ y) i = (bt x i ^^ bt y i) := by unfold bt; rw [Int32.toBitVec_xor, BitVec.getLsbD_xor]
theorem b_big {x : Int32} {i : Nat} (h : 32 ≤ i) : bt x i = false := BitVec.getLsbD_of_ge _ _ h
theorem b_m1 : ∀ i, i < 32 → bt (-1) i = true := by decide +kernel
theorem b_0 (i : Nat) : bt 0 i = false := BitVec.getLsbD_zero
theorem nx_and (a b : Nat) : nI a &&& nI b = nI (a &&& b) := by
  apply Int32.toBitVec_inj.1
  show BitVec.ofNat 32 a &&& BitVec.ofNat 32 b = BitVec.ofNat 32 (a &&& b)
  apply BitVec.eq_of_getLsbD_eq
  intro i hi
  simp [hi]
theorem nx_xor (a b : Nat) : nI a ^^^ nI b = nI (a ^^^ b) := by
  apply Int32.toBitVec_inj.1
  show BitVec.ofNat 32 a ^^^ BitVec.ofNat 32 b = BitVec.ofNat 32 (a ^^^ b)
  apply BitVec.eq_of_getLsbD_eq
  intro i hi
  simp [hi]
theorem wb_of32 (x : Int32) : ∃ n, n < 2 ^ 32 ∧ x = nI n := ⟨x.toBitVec.toNat, x.toBitVec.isLt, Int32.toBitVec_inj.mp (by show _ = BitVec.ofNat 32 _; simp)⟩
end
section
/-! the pure picture: sets are naturals below 256, a bit a job -/
def tm_d (s j : Nat) : Nat := if s.testBit j = true then 1 else 0
theorem tm_d1 (s j : Nat) : tm_d s j ≤ 1 := by unfold tm_d; split <;> omega
theorem tm_d_t {s j : Nat} (h : s.testBit j = true) : tm_d s j = 1 := if_pos h
theorem tm_d_f {s j : Nat} (h : ¬ s.testBit j = true) : tm_d s j = 0 := if_neg h
theorem tm_d_eq1 {s j : Nat} : tm_d s j = 1 ↔ s.testBit j = true := by
  unfold tm_d; split
  · next h => exact ⟨fun _ => h, fun _ => rfl⟩
  · next h => exact ⟨fun z => absurd z (by decide), fun z => absurd z h⟩
theorem tm_d_bit {a b j : Nat} (h : tm_d a j = tm_d b j) : a.testBit j = b.testBit j := by
  by_cases x : a.testBit j = true
  · rw [x, tm_d_eq1.mp (h ▸ tm_d_t x)]
  · by_cases y : b.testBit j = true
    · exact absurd (tm_d_eq1.mp (h.trans (tm_d_t y))) x
    · cases hx : a.testBit j with
      | true => exact absurd hx x
      | false =>
        cases hy : b.testBit j with
        | true => exact absurd hy y
        | false => rfl
def tm_key (s : Nat) : Nat := 128 * tm_d s 0 + 64 * tm_d s 1 + 32 * tm_d s 2 + 16 * tm_d s 3 + 8 * tm_d s 4 + 4 * tm_d s 5 + 2 * tm_d s 6 + tm_d s 7
theorem tm_key_lt (a : Nat) : tm_key a < 256 := by
  have a0 := tm_d1 a 0
  have a1 := tm_d1 a 1
  have a2 := tm_d1 a 2
  have a3 := tm_d1 a 3
  have a4 := tm_d1 a 4
  have a5 := tm_d1 a 5
  have a6 := tm_d1 a 6
  have a7 := tm_d1 a 7
  unfold tm_key; omega
theorem tm_kl0 {a b : Nat} (e : ∀ i, i < 0 → tm_d a i = tm_d b i) (n : tm_d a 0 ≠ tm_d b 0) : tm_key b < tm_key a ↔ tm_d a 0 = 1 := by
  have a0 := tm_d1 a 0
  have a1 := tm_d1 a 1
  have a2 := tm_d1 a 2
  have a3 := tm_d1 a 3
  have a4 := tm_d1 a 4
  have a5 := tm_d1 a 5
  have a6 := tm_d1 a 6
  have a7 := tm_d1 a 7
  have b0 := tm_d1 b 0
  have b1 := tm_d1 b 1
  have b2 := tm_d1 b 2
  have b3 := tm_d1 b 3
  have b4 := tm_d1 b 4
  have b5 := tm_d1 b 5
  have b6 := tm_d1 b 6
  have b7 := tm_d1 b 7
  unfold tm_key; omega
theorem tm_kl1 {a b : Nat} (e : ∀ i, i < 1 → tm_d a i = tm_d b i) (n : tm_d a 1 ≠ tm_d b 1) : tm_key b < tm_key a ↔ tm_d a 1 = 1 := by
  have e0 := e 0 (by decide)
  have a1 := tm_d1 a 1
  have a2 := tm_d1 a 2
  have a3 := tm_d1 a 3
  have a4 := tm_d1 a 4
  have a5 := tm_d1 a 5
  have a6 := tm_d1 a 6
  have a7 := tm_d1 a 7
  have b1 := tm_d1 b 1
  have b2 := tm_d1 b 2
  have b3 := tm_d1 b 3
  have b4 := tm_d1 b 4
  have b5 := tm_d1 b 5
  have b6 := tm_d1 b 6
  have b7 := tm_d1 b 7
  unfold tm_key; omega
theorem tm_kl2 {a b : Nat} (e : ∀ i, i < 2 → tm_d a i = tm_d b i) (n : tm_d a 2 ≠ tm_d b 2) : tm_key b < tm_key a ↔ tm_d a 2 = 1 := by
  have e0 := e 0 (by decide)
  have e1 := e 1 (by decide)
  have a2 := tm_d1 a 2
  have a3 := tm_d1 a 3
  have a4 := tm_d1 a 4
  have a5 := tm_d1 a 5
  have a6 := tm_d1 a 6
  have a7 := tm_d1 a 7
  have b2 := tm_d1 b 2
  have b3 := tm_d1 b 3
  have b4 := tm_d1 b 4
  have b5 := tm_d1 b 5
  have b6 := tm_d1 b 6
  have b7 := tm_d1 b 7
  unfold tm_key; omega
theorem tm_kl3 {a b : Nat} (e : ∀ i, i < 3 → tm_d a i = tm_d b i) (n : tm_d a 3 ≠ tm_d b 3) : tm_key b < tm_key a ↔ tm_d a 3 = 1 := by
  have e0 := e 0 (by decide)
  have e1 := e 1 (by decide)
  have e2 := e 2 (by decide)
  have a3 := tm_d1 a 3
  have a4 := tm_d1 a 4
  have a5 := tm_d1 a 5
  have a6 := tm_d1 a 6
  have a7 := tm_d1 a 7
  have b3 := tm_d1 b 3
  have b4 := tm_d1 b 4
  have b5 := tm_d1 b 5
  have b6 := tm_d1 b 6
  have b7 := tm_d1 b 7
  unfold tm_key; omega
theorem tm_kl4 {a b : Nat} (e : ∀ i, i < 4 → tm_d a i = tm_d b i) (n : tm_d a 4 ≠ tm_d b 4) : tm_key b < tm_key a ↔ tm_d a 4 = 1 := by
  have e0 := e 0 (by decide)
  have e1 := e 1 (by decide)
  have e2 := e 2 (by decide)
  have e3 := e 3 (by decide)
  have a4 := tm_d1 a 4
  have a5 := tm_d1 a 5
  have a6 := tm_d1 a 6
  have a7 := tm_d1 a 7
  have b4 := tm_d1 b 4
  have b5 := tm_d1 b 5
  have b6 := tm_d1 b 6
  have b7 := tm_d1 b 7
  unfold tm_key; omega
theorem tm_kl5 {a b : Nat} (e : ∀ i, i < 5 → tm_d a i = tm_d b i) (n : tm_d a 5 ≠ tm_d b 5) : tm_key b < tm_key a ↔ tm_d a 5 = 1 := by
  have e0 := e 0 (by decide)
  have e1 := e 1 (by decide)
  have e2 := e 2 (by decide)
  have e3 := e 3 (by decide)
  have e4 := e 4 (by decide)
  have a5 := tm_d1 a 5
  have a6 := tm_d1 a 6
  have a7 := tm_d1 a 7
  have b5 := tm_d1 b 5
  have b6 := tm_d1 b 6
  have b7 := tm_d1 b 7
  unfold tm_key; omega
theorem tm_kl6 {a b : Nat} (e : ∀ i, i < 6 → tm_d a i = tm_d b i) (n : tm_d a 6 ≠ tm_d b 6) : tm_key b < tm_key a ↔ tm_d a 6 = 1 := by
  have e0 := e 0 (by decide)
  have e1 := e 1 (by decide)
  have e2 := e 2 (by decide)
  have e3 := e 3 (by decide)
  have e4 := e 4 (by decide)
  have e5 := e 5 (by decide)
  have a6 := tm_d1 a 6
  have a7 := tm_d1 a 7
  have b6 := tm_d1 b 6
  have b7 := tm_d1 b 7
  unfold tm_key; omega
theorem tm_kl7 {a b : Nat} (e : ∀ i, i < 7 → tm_d a i = tm_d b i) (n : tm_d a 7 ≠ tm_d b 7) : tm_key b < tm_key a ↔ tm_d a 7 = 1 := by
  have e0 := e 0 (by decide)
  have e1 := e 1 (by decide)
  have e2 := e 2 (by decide)
  have e3 := e 3 (by decide)
  have e4 := e 4 (by decide)
  have e5 := e 5 (by decide)
  have e6 := e 6 (by decide)
  have a7 := tm_d1 a 7
  have b7 := tm_d1 b 7
  unfold tm_key; omega
theorem tm_kl {a b j : Nat} (hj : j < 8) (e : ∀ i, i < j → tm_d a i = tm_d b i) (n : tm_d a j ≠ tm_d b j) : tm_key b < tm_key a ↔ tm_d a j = 1 := by
  have h : j = 0 ∨ j = 1 ∨ j = 2 ∨ j = 3 ∨ j = 4 ∨ j = 5 ∨ j = 6 ∨ j = 7 := by omega
  rcases h with rfl | rfl | rfl | rfl | rfl | rfl | rfl | rfl
  · exact tm_kl0 e n
  · exact tm_kl1 e n
  · exact tm_kl2 e n
  · exact tm_kl3 e n
  · exact tm_kl4 e n
  · exact tm_kl5 e n
  · exact tm_kl6 e n
  · exact tm_kl7 e n
theorem tm_keq {a b : Nat} (e : ∀ i, i < 8 → tm_d a i = tm_d b i) : tm_key a = tm_key b := by
  have e0 := e 0 (by decide)
  have e1 := e 1 (by decide)
  have e2 := e 2 (by decide)
  have e3 := e 3 (by decide)
  have e4 := e 4 (by decide)
  have e5 := e 5 (by decide)
  have e6 := e 6 (by decide)
  have e7 := e 7 (by decide)
  unfold tm_key; omega
theorem tm_kdig {a b : Nat} (h : tm_key a = tm_key b) : ∀ i, i < 8 → tm_d a i = tm_d b i := by
  have a0 := tm_d1 a 0
  have a1 := tm_d1 a 1
  have a2 := tm_d1 a 2
  have a3 := tm_d1 a 3
  have a4 := tm_d1 a 4
  have a5 := tm_d1 a 5
  have a6 := tm_d1 a 6
  have a7 := tm_d1 a 7
  have b0 := tm_d1 b 0
  have b1 := tm_d1 b 1
  have b2 := tm_d1 b 2
  have b3 := tm_d1 b 3
  have b4 := tm_d1 b 4
  have b5 := tm_d1 b 5
  have b6 := tm_d1 b 6
  have b7 := tm_d1 b 7
  unfold tm_key at h
  intro i hi
  have z : i = 0 ∨ i = 1 ∨ i = 2 ∨ i = 3 ∨ i = 4 ∨ i = 5 ∨ i = 6 ∨ i = 7 := by omega
  rcases z with rfl | rfl | rfl | rfl | rfl | rfl | rfl | rfl <;> omega
theorem tm_bits {a b : Nat} (ha : a < 256) (hb : b < 256) (h : ∀ i, i < 8 → a.testBit i = b.testBit i) : a = b := by
  apply Nat.eq_of_testBit_eq
  intro i
  rcases Nat.lt_or_ge i 8 with z | z
  · exact h i z
  · have hp : 2 ^ 8 ≤ 2 ^ i := Nat.pow_le_pow_right (by decide) z
    rw [Nat.testBit_lt_two_pow (show a < 2 ^ i by omega), Nat.testBit_lt_two_pow (show b < 2 ^ i by omega)]
theorem tm_kinj {a b : Nat} (ha : a < 256) (hb : b < 256) (h : tm_key a = tm_key b) : a = b :=
  tm_bits ha hb (fun i hi => tm_d_bit (tm_kdig h i hi))
/-! counts, loads, sums -/
def tm_cnt (S E : Nat → Int32) (s : Nat) (t : Int32) : Nat → Nat
  | 0 => 0
  | j + 1 => tm_cnt S E s t j + (if s.testBit j = true ∧ S j ≤ t ∧ t < E j then 1 else 0)
theorem tm_cnt_le (S E : Nat → Int32) (s : Nat) (t : Int32) (j : Nat) : tm_cnt S E s t j ≤ j := by
  induction j with
  | zero => exact Nat.le_refl 0
  | succ j ih => unfold tm_cnt; split <;> omega
theorem tm_cnt_y {S E : Nat → Int32} {s : Nat} {t : Int32} {j : Nat} (h : s.testBit j = true ∧ S j ≤ t ∧ t < E j) : tm_cnt S E s t (j + 1) = tm_cnt S E s t j + 1 := by
  rw [tm_cnt, if_pos h]
theorem tm_cnt_n {S E : Nat → Int32} {s : Nat} {t : Int32} {j : Nat} (h : ¬ (s.testBit j = true ∧ S j ≤ t ∧ t < E j)) : tm_cnt S E s t (j + 1) = tm_cnt S E s t j := by
  rw [tm_cnt, if_neg h]; rfl
theorem tm_cnt_0 {S E : Nat → Int32} {s : Nat} {t : Int32} (j : Nat) (h : ∀ i, i < j → ¬ (S i ≤ t ∧ t < E i)) : tm_cnt S E s t j = 0 := by
  induction j with
  | zero => rfl
  | succ j ih => rw [tm_cnt_n (fun z => h j (by omega) z.2), ih (fun i hi => h i (by omega))]
theorem tm_cnt_e {S E : Nat → Int32} {t : Int32} (j : Nat) : tm_cnt S E 0 t j = 0 := by
  induction j with
  | zero => rfl
  | succ j ih => rw [tm_cnt_n (fun z => absurd z.1 (by rw [Nat.zero_testBit]; decide)), ih]
def tm_most (S E : Nat → Int32) (s : Nat) : Nat → Nat
  | 0 => 0
  | t + 1 => if tm_most S E s t < tm_cnt S E s (nI t) 8 then tm_cnt S E s (nI t) 8 else tm_most S E s t
theorem tm_most_le (S E : Nat → Int32) (s : Nat) (t : Nat) : tm_most S E s t ≤ 8 := by
  induction t with
  | zero => exact Nat.zero_le 8
  | succ t ih =>
    unfold tm_most
    have := tm_cnt_le S E s (nI t) 8
    split <;> omega
theorem tm_most_y {S E : Nat → Int32} {s t : Nat} (h : tm_most S E s t < tm_cnt S E s (nI t) 8) : tm_most S E s (t + 1) = tm_cnt S E s (nI t) 8 := by
  rw [tm_most, if_pos h]
theorem tm_most_n {S E : Nat → Int32} {s t : Nat} (h : ¬ tm_most S E s t < tm_cnt S E s (nI t) 8) : tm_most S E s (t + 1) = tm_most S E s t := by
  rw [tm_most, if_neg h]
theorem tm_most_e {S E : Nat → Int32} (t : Nat) : tm_most S E 0 t = 0 := by
  induction t with
  | zero => rfl
  | succ t ih => rw [tm_most_n (by rw [tm_cnt_e]; omega), ih]
def tm_sum (w : Nat → Nat) (s : Nat) : Nat → Nat
  | 0 => 0
  | j + 1 => tm_sum w s j + (if s.testBit j = true then w j else 0)
theorem tm_sum_y {w : Nat → Nat} {s j : Nat} (h : s.testBit j = true) : tm_sum w s (j + 1) = tm_sum w s j + w j := by
  rw [tm_sum, if_pos h]
theorem tm_sum_n {w : Nat → Nat} {s j : Nat} (h : ¬ s.testBit j = true) : tm_sum w s (j + 1) = tm_sum w s j := by
  rw [tm_sum, if_neg h]; rfl
theorem tm_sum_le {w : Nat → Nat} (hw : ∀ i, w i ≤ 20) (s j : Nat) : tm_sum w s j ≤ 20 * j := by
  induction j with
  | zero => exact Nat.le_refl 0
  | succ j ih => have := hw j; unfold tm_sum; split <;> omega
/-- the worths with v at j -/
def tm_put (w : Nat → Nat) (j v : Nat) : Nat → Nat := fun i => if i = j then v else w i
theorem tm_put_s {w : Nat → Nat} {j v : Nat} : tm_put w j v j = v := if_pos rfl
theorem tm_put_n {w : Nat → Nat} {j v i : Nat} (h : i ≠ j) : tm_put w j v i = w i := if_neg h
theorem tm_put_lo {w : Nat → Nat} {s j v : Nat} (n : Nat) (h : n ≤ j) : tm_sum (tm_put w j v) s n = tm_sum w s n := by
  induction n with
  | zero => rfl
  | succ n ih =>
    have e := ih (by omega)
    by_cases b : s.testBit n = true
    · rw [tm_sum_y b, tm_sum_y b, e, tm_put_n (by omega)]
    · rw [tm_sum_n b, tm_sum_n b, e]
theorem tm_put_no {w : Nat → Nat} {s j v : Nat} (hb : ¬ s.testBit j = true) (n : Nat) : tm_sum (tm_put w j v) s n = tm_sum w s n := by
  induction n with
  | zero => rfl
  | succ n ih =>
    by_cases b : s.testBit n = true
    · rw [tm_sum_y b, tm_sum_y b, ih, tm_put_n (show n ≠ j from fun z => hb (by rw [← z]; exact b))]
    · rw [tm_sum_n b, tm_sum_n b, ih]
theorem tm_put_ya {w : Nat → Nat} {s j v : Nat} (hb : s.testBit j = true) (d : Nat) : tm_sum (tm_put w j v) s (j + 1 + d) + w j = tm_sum w s (j + 1 + d) + v := by
  induction d with
  | zero =>
    show tm_sum (tm_put w j v) s (j + 1) + w j = tm_sum w s (j + 1) + v
    rw [tm_sum_y hb, tm_sum_y hb, tm_put_s, tm_put_lo j (Nat.le_refl j)]; omega
  | succ d ih =>
    show tm_sum (tm_put w j v) s (j + 1 + d + 1) + w j = tm_sum w s (j + 1 + d + 1) + v
    by_cases b : s.testBit (j + 1 + d) = true
    · rw [tm_sum_y b, tm_sum_y b, tm_put_n (by omega)]; omega
    · rw [tm_sum_n b, tm_sum_n b]; exact ih
theorem tm_put_yes {w : Nat → Nat} {s j v : Nat} (hj : j < 8) (hb : s.testBit j = true) : tm_sum (tm_put w j v) s 8 + w j = tm_sum w s 8 + v := by
  have h := tm_put_ya (w := w) (v := v) hb (8 - (j + 1))
  have e : j + 1 + (8 - (j + 1)) = 8 := by omega
  rw [e] at h; exact h
/-! the order: worth first, then the least difference -/
def tm_sc (w : Nat → Nat) (s : Nat) : Nat := 256 * tm_sum w s 8 + tm_key s
theorem tm_sc_inj {w : Nat → Nat} {a b : Nat} (ha : a < 256) (hb : b < 256) (h : tm_sc w a = tm_sc w b) : a = b := by
  have x := tm_key_lt a
  have y := tm_key_lt b
  unfold tm_sc at h
  exact tm_kinj ha hb (by omega)
theorem tm_sc_lt {w : Nat → Nat} {a b : Nat} : tm_sc w b < tm_sc w a ↔ (tm_sum w b 8 < tm_sum w a 8 ∨ (tm_sum w a 8 = tm_sum w b 8 ∧ tm_key b < tm_key a)) := by
  have x := tm_key_lt a
  have y := tm_key_lt b
  unfold tm_sc
  omega
theorem tm_sc_le {w : Nat → Nat} {a b : Nat} (h : tm_sc w a ≤ tm_sc w b) : tm_sum w a 8 ≤ tm_sum w b 8 := by
  have x := tm_key_lt a
  have y := tm_key_lt b
  unfold tm_sc at h
  omega
/-! the best of a family of sets: -1 when there is none -/
def tm_BS (A : Nat → Prop) (f : Nat → Nat) (n : Nat) (r : Int32) : Prop :=
  (r = -1 ∧ ∀ s, s < n → ¬ A s) ∨ (∃ c, c < n ∧ r = nI c ∧ A c ∧ ∀ s, s < n → A s → f s ≤ f c)
theorem tm_neg {c : Nat} (h : c < 2 ^ 31) : ¬ nI c = -1 := by
  intro e
  have z := nI_pos h
  rw [e] at z
  exact z (by decide)
theorem tm_bs0 (A : Nat → Prop) (f : Nat → Nat) : tm_BS A f 0 (-1) := Or.inl ⟨rfl, fun _ h => absurd h (Nat.not_lt_zero _)⟩
theorem tm_bs_no {A : Nat → Prop} {f : Nat → Nat} {n : Nat} {r : Int32} (h : tm_BS A f n r) (hn : ¬ A n) : tm_BS A f (n + 1) r := by
  rcases h with ⟨e, h⟩ | ⟨c, hc, e, ha, h⟩
  · refine Or.inl ⟨e, fun s hs a => ?_⟩
    rcases Nat.lt_or_ge s n with z | z
    · exact h s z a
    · exact hn ((show s = n by omega) ▸ a)
  · refine Or.inr ⟨c, by omega, e, ha, fun s hs a => ?_⟩
    rcases Nat.lt_or_ge s n with z | z
    · exact h s z a
    · exact absurd ((show s = n by omega) ▸ a) hn
theorem tm_bs_first {A : Nat → Prop} {f : Nat → Nat} {n : Nat} {r : Int32} (hl : n < 2 ^ 31) (h : tm_BS A f n r) (hr : r = -1) (ha : A n) : tm_BS A f (n + 1) (nI n) := by
  rcases h with ⟨_, h⟩ | ⟨c, hc, e, _, _⟩
  · refine Or.inr ⟨n, by omega, rfl, ha, fun s hs a => ?_⟩
    rcases Nat.lt_or_ge s n with z | z
    · exact absurd a (h s z)
    · rw [show s = n by omega]; exact Nat.le_refl _
  · exact absurd (e.symm.trans hr) (tm_neg (by omega))
theorem tm_bs_some {A : Nat → Prop} {f : Nat → Nat} {n : Nat} {r : Int32} (h : tm_BS A f n r) (hr : ¬ r = -1) : ∃ c, c < n ∧ r = nI c ∧ A c ∧ ∀ s, s < n → A s → f s ≤ f c := by
  rcases h with ⟨e, _⟩ | h
  · exact absurd e hr
  · exact h
theorem tm_bs_new {A : Nat → Prop} {f : Nat → Nat} {n c : Nat} (h : ∀ s, s < n → A s → f s ≤ f c) (ha : A n) (hf : f c < f n) : tm_BS A f (n + 1) (nI n) := by
  refine Or.inr ⟨n, by omega, rfl, ha, fun s hs a => ?_⟩
  rcases Nat.lt_or_ge s n with z | z
  · exact Nat.le_of_lt (Nat.lt_of_le_of_lt (h s z a) hf)
  · rw [show s = n by omega]; exact Nat.le_refl _
theorem tm_bs_old {A : Nat → Prop} {f : Nat → Nat} {n c : Nat} (hc : c < n) (hA : A c) (h : ∀ s, s < n → A s → f s ≤ f c) (hf : ¬ f c < f n) : tm_BS A f (n + 1) (nI c) := by
  refine Or.inr ⟨c, by omega, rfl, hA, fun s hs a => ?_⟩
  rcases Nat.lt_or_ge s n with z | z
  · exact h s z a
  · rw [show s = n by omega]; exact Nat.le_of_not_lt hf
theorem tm_bs_one {A : Nat → Prop} {f : Nat → Nat} {r r' : Int32} (hi : ∀ a b, a < 256 → b < 256 → f a = f b → a = b) (h : tm_BS A f 256 r) (h' : tm_BS A f 256 r') : r' = r := by
  rcases h with ⟨e, h⟩ | ⟨c, hc, e, ha, h⟩
  · rcases h' with ⟨e', _⟩ | ⟨c', hc', _, ha', _⟩
    · rw [e, e']
    · exact absurd ha' (h c' hc')
  · rcases h' with ⟨_, h'⟩ | ⟨c', hc', e', ha', h'⟩
    · exact absurd ha (h' c hc)
    · rw [e, e', hi c' c hc' hc (Nat.le_antisymm (h c' hc' ha') (h' c hc ha))]
theorem tm_bs_iff {A B : Nat → Prop} {f : Nat → Nat} {n : Nat} {r : Int32} (e : ∀ s, s < n → (A s ↔ B s)) (h : tm_BS A f n r) : tm_BS B f n r := by
  rcases h with ⟨z, h⟩ | ⟨c, hc, z, ha, h⟩
  · exact Or.inl ⟨z, fun s hs b => h s hs ((e s hs).mpr b)⟩
  · exact Or.inr ⟨c, hc, z, (e c hc).mp ha, fun s hs b => h s hs ((e s hs).mpr b)⟩
/-! the greatest sum of a family: -1 when there is none -/
def tm_MX (A : Nat → Prop) (f : Nat → Nat) (n : Nat) (r : Int32) : Prop :=
  (r = -1 ∧ ∀ s, s < n → ¬ A s) ∨ (∃ c, c < n ∧ r = nI (f c) ∧ A c ∧ ∀ s, s < n → A s → f s ≤ f c)
theorem tm_mx0 (A : Nat → Prop) (f : Nat → Nat) : tm_MX A f 0 (-1) := Or.inl ⟨rfl, fun _ h => absurd h (Nat.not_lt_zero _)⟩
theorem tm_mx_no {A : Nat → Prop} {f : Nat → Nat} {n : Nat} {r : Int32} (h : tm_MX A f n r) (hn : ¬ A n) : tm_MX A f (n + 1) r := by
  rcases h with ⟨e, h⟩ | ⟨c, hc, e, ha, h⟩
  · refine Or.inl ⟨e, fun s hs a => ?_⟩
    rcases Nat.lt_or_ge s n with z | z
    · exact h s z a
    · exact hn ((show s = n by omega) ▸ a)
  · refine Or.inr ⟨c, by omega, e, ha, fun s hs a => ?_⟩
    rcases Nat.lt_or_ge s n with z | z
    · exact h s z a
    · exact absurd ((show s = n by omega) ▸ a) hn
theorem tm_mx_gt {A : Nat → Prop} {f : Nat → Nat} {n : Nat} {r : Int32} (hf : ∀ s, f s < 2 ^ 31) (h : tm_MX A f n r) (ha : A n) (hg : r < nI (f n)) : tm_MX A f (n + 1) (nI (f n)) := by
  refine Or.inr ⟨n, by omega, rfl, ha, fun s hs a => ?_⟩
  rcases Nat.lt_or_ge s n with z | z
  · rcases h with ⟨_, h⟩ | ⟨c, _, e, _, h⟩
    · exact absurd a (h s z)
    · rw [e, nI_ltI (hf c) (hf n)] at hg
      exact Nat.le_of_lt (Nat.lt_of_le_of_lt (h s z a) hg)
  · rw [show s = n by omega]; exact Nat.le_refl _
theorem tm_mx_le {A : Nat → Prop} {f : Nat → Nat} {n : Nat} {r : Int32} (hf : ∀ s, f s < 2 ^ 31) (h : tm_MX A f n r) (ha : A n) (hg : ¬ r < nI (f n)) : tm_MX A f (n + 1) r := by
  rcases h with ⟨e, _⟩ | ⟨c, hc, e, hA, h⟩
  · exfalso
    apply hg
    rw [e]
    have z := nI_pos' (hf n)
    exact Int32.lt_of_lt_of_le (by decide) z
  · rw [e, nI_ltI (hf c) (hf n)] at hg
    refine Or.inr ⟨c, by omega, e, hA, fun s hs a => ?_⟩
    rcases Nat.lt_or_ge s n with z | z
    · exact h s z a
    · rw [show s = n by omega]; exact Nat.le_of_not_lt hg
theorem tm_mx_one {A : Nat → Prop} {f : Nat → Nat} {n : Nat} {r r' : Int32} (h : tm_MX A f n r) (h' : tm_MX A f n r') : r' = r := by
  rcases h with ⟨e, h⟩ | ⟨c, hc, e, ha, h⟩
  · rcases h' with ⟨e', _⟩ | ⟨c', hc', _, ha', _⟩
    · rw [e, e']
    · exact absurd ha' (h c' hc')
  · rcases h' with ⟨_, h'⟩ | ⟨c', hc', e', ha', h'⟩
    · exact absurd ha (h' c hc)
    · rw [e, e', Nat.le_antisymm (h c' hc' ha') (h' c hc ha)]
theorem tm_mx_iff {A B : Nat → Prop} {f : Nat → Nat} {n : Nat} {r : Int32} (e : ∀ s, s < n → (A s ↔ B s)) (h : tm_MX A f n r) : tm_MX B f n r := by
  rcases h with ⟨z, h⟩ | ⟨c, hc, z, ha, h⟩
  · exact Or.inl ⟨z, fun s hs b => h s hs ((e s hs).mpr b)⟩
  · exact Or.inr ⟨c, hc, z, (e c hc).mp ha, fun s hs b => h s hs ((e s hs).mpr b)⟩
/-! the price of j: a is the best set with j, b the best without -/
theorem tm_price {A : Nat → Prop} {w : Nat → Nat} {j v a b : Nat} {r : Int32} (hj : j < 8)
    (ha : a < 256 ∧ A a ∧ a.testBit j = true ∧ ∀ s, s < 256 → (A s ∧ s.testBit j = true) → tm_sc w s ≤ tm_sc w a)
    (hb : b < 256 ∧ A b ∧ ¬ b.testBit j = true ∧ ∀ s, s < 256 → (A s ∧ ¬ s.testBit j = true) → tm_sc w s ≤ tm_sc w b)
    (h : tm_BS A (tm_sc (tm_put w j v)) 256 r) :
    ∃ c, c < 256 ∧ r = nI c ∧ (c.testBit j = true ↔ (tm_sum w b 8 + w j < tm_sum w a 8 + v ∨ (tm_sum w b 8 + w j = tm_sum w a 8 + v ∧ tm_key b < tm_key a))) := by
  obtain ⟨la, Aa, ja, ma⟩ := ha
  obtain ⟨lb, Ab, jb, mb⟩ := hb
  rcases h with ⟨_, h⟩ | ⟨c, hc, e, Ac, h⟩
  · exact absurd Aa (h a la)
  · refine ⟨c, hc, e, ?_⟩
    have ka := tm_key_lt a
    have kb := tm_key_lt b
    have kc := tm_key_lt c
    have pa := tm_put_yes (w := w) (v := v) hj ja
    have pb := tm_put_no (w := w) (v := v) jb 8
    have ga := h a la Aa
    have gb := h b lb Ab
    have ne : tm_key a ≠ tm_key b := fun z => jb (tm_kinj la lb z ▸ ja)
    by_cases jc : c.testBit j = true
    · have pc := tm_put_yes (w := w) (v := v) hj jc
      have gc := ma c hc ⟨Ac, jc⟩
      unfold tm_sc at ga gb gc
      refine ⟨fun _ => ?_, fun _ => jc⟩
      omega
    · have pc := tm_put_no (w := w) (v := v) jc 8
      have gc := mb c hc ⟨Ac, jc⟩
      unfold tm_sc at ga gb gc
      refine ⟨fun z => absurd z jc, fun z => ?_⟩
      exfalso
      omega
end
section
/-! tables over sets below 256, and bits of Int32 -/
theorem tm_xb : ∀ s, s < 256 → ∀ j, j < 8 → ((nI s &&& ((1 : Int32) <<< (nI j &&& 31))) = 0 ↔ ¬ s.testBit j = true) := by decide +kernel
theorem tm_xm : ∀ s, s < 256 → ∀ j, j < 8 → ((nI s &&& ((1 : Int32) <<< (nI j &&& 31))) = ((1 : Int32) <<< (nI j &&& 31)) ↔ s.testBit j = true) := by decide +kernel
theorem tm_yb : ∀ s, s < 256 → ∀ j, j < 8 → ((nI s >>> (nI j &&& 31)) &&& 1) = nI (tm_d s j) := by decide +kernel
theorem tm_or : ∀ p, p < 256 → ∀ j, j < 8 → (nI p ||| ((1 : Int32) <<< (nI j &&& 31))) = nI (p ||| 2 ^ j) ∧ (p ||| 2 ^ j) < 256 := by decide +kernel
theorem tm_and : ∀ p, p < 256 → ∀ j, j < 8 → (nI p &&& (((1 : Int32) <<< (nI j &&& 31)) ^^^ (-1))) = nI (p &&& (255 - 2 ^ j)) ∧ (p &&& (255 - 2 ^ j)) < 256 := by decide +kernel
theorem tm_jb1 : ∀ p, p < 256 → ∀ j, j < 8 → p.testBit j = true → (nI (p % 2 ^ j) ||| ((1 : Int32) <<< (nI j &&& 31))) = nI (p % 2 ^ (j + 1)) := by decide +kernel
theorem tm_jb0 : ∀ p, p < 256 → ∀ j, j < 8 → ¬ p.testBit j = true → p % 2 ^ j = p % 2 ^ (j + 1) := by decide +kernel
theorem tm_low : ∀ x, x < 256 → ∀ i, i < 8 → x.testBit i = true → (∀ k, k < i → x.testBit k = false) → (nI x &&& (-(nI x))) = ((1 : Int32) <<< (nI i &&& 31)) := by decide +kernel
theorem tm_255 : ∀ s, s < 256 → (nI s &&& 255) = nI s := by decide +kernel
theorem tm_c255 : ∀ j, j < 8 → ∀ i, i < 8 → (255 - 2 ^ j).testBit i = decide (j ≠ i) := by decide +kernel
theorem tm_lt (x : Int32) {p : Nat} (hp : p < 256) : ∃ s, s < 256 ∧ x &&& nI p = nI s := by
  obtain ⟨m, _, rfl⟩ := wb_of32 x
  exact ⟨m &&& p, Nat.lt_of_le_of_lt Nat.and_le_right hp, nx_and m p⟩
theorem tm_notbit (x : Int32) {i : Nat} (hi : i < 32) : bt (x ^^^ (-1)) i = !(bt x i) := by rw [b_xor, b_m1 i hi, Bool.xor_true]
theorem tm_sub_eq {x P : Int32} (h : (x &&& (P ^^^ (-1))) = 0) : x &&& P = x := by
  apply b_ext
  intro i hi
  have e : bt (x &&& (P ^^^ (-1))) i = bt 0 i := by rw [h]
  rw [b_and, tm_notbit P hi, b_0] at e
  rw [b_and]
  revert e
  cases bt x i <;> cases bt P i <;> decide
theorem tm_sub_and (x P : Int32) : ((x &&& P) &&& (P ^^^ (-1))) = 0 := by
  apply b_ext
  intro i hi
  rw [b_and, b_and, tm_notbit P hi, b_0]
  cases bt x i <;> cases bt P i <;> decide
theorem tm_mst (S M : Int32) : (S &&& M) = M ↔ (M &&& (S ^^^ (-1))) = 0 := by
  constructor
  · intro h
    rw [← h]
    apply b_ext
    intro i hi
    rw [b_and, b_and, tm_notbit S hi, b_0]
    cases bt S i <;> cases bt M i <;> decide
  · intro h
    rw [Int32.and_comm]
    exact tm_sub_eq h
theorem tm_sub_lt {x : Int32} {p : Nat} (hp : p < 256) (h : (x &&& (nI p ^^^ (-1))) = 0) : ∃ s, s < 256 ∧ x = nI s := by
  obtain ⟨s, hs, e⟩ := tm_lt x hp
  exact ⟨s, hs, (tm_sub_eq h).symm.trans e⟩
theorem tm_or_bit {p j i : Nat} : (p ||| 2 ^ j).testBit i = (p.testBit i || decide (j = i)) := by rw [Nat.testBit_or, Nat.testBit_two_pow]
theorem tm_and_bit {p j i : Nat} (hj : j < 8) (hi : i < 8) : (p &&& (255 - 2 ^ j)).testBit i = (p.testBit i && decide (j ≠ i)) := by rw [Nat.testBit_and, tm_c255 j hj i hi]
end
section
/-! the component's private methods, each with a general post -/
section
variable {P T : Int32} {S E W : Nat → Int32}
theorem tx_cnt_l {post : Int32 → Prop} {s : Nat} (hs : s < 256) (t : Int32) (hp : post (nI (tm_cnt S E s t 8))) : ∀ d j : Nat, j + d = 8 → wX_countAt_5 post (nI s) t P T S E W (d + 1) (nI (tm_cnt S E s t j)) (nI j) := by
  intro d
  induction d with
  | zero =>
    intro j hj
    have e : j = 8 := by omega
    subst e
    exact br_t (by decide) hp
  | succ d ih =>
    intro j hj
    have h : ¬ (8 : Int32) ≤ nI j := nI_ge (b := 8) (by omega) (by decide)
    have hi : vp_in (nI j) 8 := vp_in_nI (by omega) (by decide)
    have hc : (nI j).toNatClampNeg = j := nI_clamp (by omega)
    have i := ih (j + 1) (by omega)
    by_cases b : s.testBit j = true
    · have hb : ¬ (nI s &&& ((1 : Int32) <<< (nI j &&& 31))) = 0 := fun z => (tm_xb s hs j (by omega)).mp z b
      by_cases c1 : t < S j
      · rw [tm_cnt_n (fun z => Int32.not_lt.mpr z.2.1 c1)] at i
        exact br_f h (br_f hb ⟨hi, br_t (by rw [hc]; exact c1) (nm_r (nI_1 j) i)⟩)
      · by_cases c2 : E j ≤ t
        · rw [tm_cnt_n (fun z => Int32.not_le.mpr z.2.2 c2)] at i
          exact br_f h (br_f hb ⟨hi, br_f (by rw [hc]; exact c1) ⟨hi, br_t (by rw [hc]; exact c2) (nm_r (nI_1 j) i)⟩⟩)
        · rw [tm_cnt_y ⟨b, Int32.not_lt.mp c1, Int32.not_le.mp c2⟩] at i
          exact br_f h (br_f hb ⟨hi, br_f (by rw [hc]; exact c1) ⟨hi, br_f (by rw [hc]; exact c2) (nm_r (nI_1 _) (nm_r (nI_1 j) i))⟩⟩)
    · rw [tm_cnt_n (fun z => b z.1)] at i
      exact br_f h (br_t ((tm_xb s hs j (by omega)).mpr b) (nm_r (nI_1 j) i))
theorem tx_countAt {post : Int32 → Prop} {s : Nat} (hs : s < 256) (t : Int32) (hp : post (nI (tm_cnt S E s t 8))) : wpX_countAt post (P, T, S, E, W) (nI s) t := ⟨9, tx_cnt_l hs t hp 8 0 rfl⟩
theorem tx_most_l {post : Int32 → Prop} {s : Nat} (hs : s < 256) (hp : post (nI (tm_most S E s 16))) : ∀ d t : Nat, t + d = 16 → wX_mostAtOnce_4 post (nI s) P T S E W (d + 1) (nI (tm_most S E s t)) (nI t) := by
  intro d
  induction d with
  | zero =>
    intro t ht
    have e : t = 16 := by omega
    subst e
    exact br_t (by decide) hp
  | succ d ih =>
    intro t ht
    have h : ¬ (16 : Int32) ≤ nI t := nI_ge (b := 16) (by omega) (by decide)
    have i := ih (t + 1) (by omega)
    have l1 := tm_cnt_le S E s (nI t) 8
    have l2 := tm_most_le S E s t
    refine br_f h (tx_countAt hs (nI t) ?_)
    by_cases c : tm_most S E s t < tm_cnt S E s (nI t) 8
    · rw [tm_most_y c] at i
      exact br_f (nI_ge c (by omega)) (nm_r (nI_1 t) i)
    · rw [tm_most_n c] at i
      exact br_t (nI_le (by omega) (by omega)) (nm_r (nI_1 t) i)
theorem tx_most {post : Int32 → Prop} {s : Nat} (hs : s < 256) (hp : post (nI (tm_most S E s 16))) : wpX_mostAtOnce post (P, T, S, E, W) (nI s) := ⟨17, tx_most_l hs hp 16 0 rfl⟩
theorem tx_sum_l {post : Int32 → Prop} {w : Nat → Nat} {s : Nat} (hw : ∀ i, i < 8 → W i = nI (w i)) (hs : s < 256) (hp : post (nI (tm_sum w s 8))) : ∀ d j : Nat, j + d = 8 → wX_worthOf_4 post (nI s) P T S E W (d + 1) (nI (tm_sum w s j)) (nI j) := by
  intro d
  induction d with
  | zero =>
    intro j hj
    have e : j = 8 := by omega
    subst e
    exact br_t (by decide) hp
  | succ d ih =>
    intro j hj
    have h : ¬ (8 : Int32) ≤ nI j := nI_ge (b := 8) (by omega) (by decide)
    have hi : vp_in (nI j) 8 := vp_in_nI (by omega) (by decide)
    have hc : (nI j).toNatClampNeg = j := nI_clamp (by omega)
    have i := ih (j + 1) (by omega)
    by_cases b : s.testBit j = true
    · have hb : ¬ (nI s &&& ((1 : Int32) <<< (nI j &&& 31))) = 0 := fun z => (tm_xb s hs j (by omega)).mp z b
      rw [tm_sum_y b] at i
      exact br_f h (br_f hb ⟨hi, nm_r (by rw [hc, hw j (by omega), nI_add]) (nm_r (nI_1 j) i)⟩)
    · rw [tm_sum_n b] at i
      exact br_f h (br_t ((tm_xb s hs j (by omega)).mpr b) (nm_r (nI_1 j) i))
theorem tx_worthOf {post : Int32 → Prop} {w : Nat → Nat} {s : Nat} (hw : ∀ i, i < 8 → W i = nI (w i)) (hs : s < 256) (hp : post (nI (tm_sum w s 8))) : wpX_worthOf post (P, T, S, E, W) (nI s) := ⟨9, tx_sum_l hw hs hp 8 0 rfl⟩
theorem tx_least {post : Int32 → Prop} {a b : Nat} (ha : a < 256) (hb : b < 256) (h1 : tm_key b < tm_key a → post 1) (h0 : ¬ tm_key b < tm_key a → post 0) : wpX_hasLeastDifference post (P, T, S, E, W) (nI a) (nI b) := by
  by_cases e : ∃ i, i < 8 ∧ a.testBit i ≠ b.testBit i
  · obtain ⟨i, ⟨hi, hd⟩, hl⟩ := pk_least (fun i => i < 8 ∧ a.testBit i ≠ b.testBit i) e
    have hx : a ^^^ b < 256 := Nat.xor_lt_two_pow (n := 8) ha hb
    have l1 : (a ^^^ b).testBit i = true := by
      rw [Nat.testBit_xor]
      revert hd
      cases a.testBit i <;> cases b.testBit i <;> decide
    have z : ∀ k, k < i → a.testBit k = b.testBit k := fun k hk => Classical.byContradiction (fun q => hl k hk ⟨by omega, q⟩)
    have l2 : ∀ k, k < i → (a ^^^ b).testBit k = false := fun k hk => by rw [Nat.testBit_xor, z k hk, Bool.xor_self]
    have key : tm_key b < tm_key a ↔ tm_d a i = 1 := tm_kl hi (fun k hk => by unfold tm_d; rw [z k hk]) (fun q => hd (tm_d_bit q))
    refine nm_r (nx_xor a b) (nm_r (tm_low _ hx i hi l1 l2) ?_)
    by_cases q : a.testBit i = true
    · exact br_f (fun y => (tm_xb a ha i hi).mp y q) (h1 (key.mpr (tm_d_t q)))
    · exact br_t ((tm_xb a ha i hi).mpr q) (h0 (fun y => q (tm_d_eq1.mp (key.mp y))))
  · have eab : a = b := tm_bits ha hb (fun i hi => Classical.byContradiction (fun q => e ⟨i, hi, q⟩))
    subst eab
    refine nm_r (nx_xor a a) (nm_r (e' := 0) (by rw [Nat.xor_self]; decide) ?_)
    exact br_t Int32.and_zero (h0 (Nat.lt_irrefl _))
theorem tx_goes {post : Int32 → Prop} {w : Nat → Nat} {a b : Nat} (hw : ∀ i, i < 8 → W i = nI (w i)) (hl : ∀ i, w i ≤ 20) (ha : a < 256) (hb : b < 256) (h1 : tm_sc w b < tm_sc w a → post 1) (h0 : ¬ tm_sc w b < tm_sc w a → post 0) : wpX_goesBefore post (P, T, S, E, W) (nI a) (nI b) := by
  have la := tm_sum_le hl a 8
  have lb := tm_sum_le hl b 8
  unfold wpX_goesBefore
  dsimp only
  refine tx_worthOf hw ha ?_
  refine tx_worthOf hw hb ?_
  refine pk_lt (tm_sum w b 8) (tm_sum w a 8) (fun c => h1 (tm_sc_lt.mpr (Or.inl c))) (fun c => ?_)
  refine pk_eq (tm_sum w a 8) (tm_sum w b 8) (fun c2 => ?_) (fun c2 => h0 (fun q => ?_))
  · refine tx_least ha hb (fun q => ?_) (fun q => ?_)
    · exact br_f (by decide) (h1 (tm_sc_lt.mpr (Or.inr ⟨c2, q⟩)))
    · refine br_t rfl (h0 (fun y => ?_))
      rcases tm_sc_lt.mp y with y | y
      · omega
      · exact q y.2
  · rcases tm_sc_lt.mp q with y | y
    · omega
    · exact c2 y.1
end
end
section
/-! the component's best set, best worth, presence and least free number -/
/-- the sets that bestSet lets through -/
def tm_A (P M N : Int32) (S E : Nat → Int32) (k : Nat) (s : Nat) : Prop :=
  (nI s &&& (P ^^^ (-1))) = 0 ∧ (nI s &&& M) = M ∧ (nI s &&& N) = 0 ∧ tm_most S E s 16 ≤ k
section
variable {P T M N : Int32} {S E W : Nat → Int32}
theorem tx_b46 {post : Int32 → Prop} {J : Int32 → Int32 → Prop} {w : Nat → Nat} {k i : Nat} {r : Int32} (hw : ∀ i, i < 8 → W i = nI (w i)) (hl : ∀ i, w i ≤ 20) (hk : k < 2 ^ 31) (hi : i < 256)
    (h : tm_BS (tm_A P M N S E k) (tm_sc w) i r) (c1 : (nI i &&& (P ^^^ (-1))) = 0) (c2 : (nI i &&& M) = M) (c3 : (nI i &&& N) = 0)
    (g : ∀ r', tm_BS (tm_A P M N S E k) (tm_sc w) (i + 1) r' → J r' (nI (i + 1))) : wX_bestSet_46 post J M N (nI k) r (nI i) 1 P T S E W := by
  have l2 := tm_most_le S E i 16
  refine br_f (by decide) (tx_most hi ?_)
  refine pk_lt k (tm_most S E i 16) (fun c => nm_r (nI_1 i) (g _ (tm_bs_no h (fun a => ?_)))) (fun c => ?_)
  · have := a.2.2.2
    omega
  · have a : tm_A P M N S E k i := ⟨c1, c2, c3, c⟩
    by_cases e : r = -1
    · exact br_t e (nm_r (nI_1 i) (g _ (tm_bs_first (by omega) h e a)))
    · obtain ⟨c0, hc, rfl, ac, m⟩ := tm_bs_some h e
      refine br_f e (tx_goes hw hl hi (by omega) (fun q => ?_) (fun q => ?_))
      · exact br_f (by decide) (nm_r (nI_1 i) (g _ (tm_bs_new m a q)))
      · exact br_t rfl (nm_r (nI_1 i) (g _ (tm_bs_old hc ac m q)))
theorem tx_b45 {post : Int32 → Prop} {J : Int32 → Int32 → Prop} {w : Nat → Nat} {k i : Nat} {r : Int32}
    (h : tm_BS (tm_A P M N S E k) (tm_sc w) i r) (n : ¬ tm_A P M N S E k i)
    (g : ∀ r', tm_BS (tm_A P M N S E k) (tm_sc w) (i + 1) r' → J r' (nI (i + 1))) : wX_bestSet_45 post J M N (nI k) r (nI i) P T S E W :=
  br_t rfl (nm_r (nI_1 i) (g _ (tm_bs_no h n)))
theorem tx_best_l {post : Int32 → Prop} {w : Nat → Nat} {k : Nat} (hw : ∀ i, i < 8 → W i = nI (w i)) (hl : ∀ i, w i ≤ 20) (hk : k < 2 ^ 31)
    (hp : ∀ r, tm_BS (tm_A P M N S E k) (tm_sc w) 256 r → post r) : ∀ (d i : Nat) (r : Int32), i + d = 256 → tm_BS (tm_A P M N S E k) (tm_sc w) i r → wX_bestSet_6 post M N (nI k) P T S E W (d + 1) r (nI i) := by
  intro d
  induction d with
  | zero =>
    intro i r hi h
    have e : i = 256 := by omega
    subst e
    exact br_t (by decide) (hp r h)
  | succ d ih =>
    intro i r hi h
    have hn : ¬ (256 : Int32) ≤ nI i := nI_ge (b := 256) (by omega) (by decide)
    have g : ∀ r', tm_BS (tm_A P M N S E k) (tm_sc w) (i + 1) r' → wX_bestSet_6 post M N (nI k) P T S E W (d + 1) r' (nI (i + 1)) := fun r' h' => ih (i + 1) r' (by omega) h'
    refine br_f hn ?_
    by_cases c1 : (nI i &&& (P ^^^ (-1))) = 0
    · refine br_t c1 ?_
      by_cases c2 : (nI i &&& M) = M
      · refine br_t c2 ?_
        by_cases c3 : (nI i &&& N) = 0
        · exact br_t c3 (tx_b46 hw hl hk (by omega) h c1 c2 c3 g)
        · exact br_f c3 (tx_b45 h (fun a => c3 a.2.2.1) g)
      · exact br_f c2 (tx_b45 h (fun a => c2 a.2.1) g)
    · exact br_f c1 (tx_b45 h (fun a => c1 a.1) g)
theorem tx_bestSet {post : Int32 → Prop} {w : Nat → Nat} {k : Nat} (hw : ∀ i, i < 8 → W i = nI (w i)) (hl : ∀ i, w i ≤ 20) (hk : k < 2 ^ 31)
    (hp : ∀ r, tm_BS (tm_A P M N S E k) (tm_sc w) 256 r → post r) : wpX_bestSet post (P, T, S, E, W) M N (nI k) :=
  ⟨257, tx_best_l hw hl hk hp 256 0 (-1) rfl (tm_bs0 _ _)⟩
theorem tx_bestWorth {post : Int32 → Prop} {w : Nat → Nat} {k : Nat} (hw : ∀ i, i < 8 → W i = nI (w i)) (hl : ∀ i, w i ≤ 20) (hk : k < 2 ^ 31)
    (hp : ∀ r, tm_MX (tm_A P M N S E k) (fun s => tm_sum w s 8) 256 r → post r) : wpX_bestWorth post (P, T, S, E, W) M N (nI k) := by
  unfold wpX_bestWorth
  dsimp only
  refine tx_bestSet hw hl hk (fun r h => ?_)
  by_cases e : r = -1
  · refine br_t e (hp _ ?_)
    rcases h with h | ⟨c, hc, e', _, _⟩
    · exact Or.inl ⟨rfl, h.2⟩
    · exact absurd (e'.symm.trans e) (tm_neg (by omega))
  · obtain ⟨c, hc, rfl, ac, m⟩ := tm_bs_some h e
    refine br_f e (tx_worthOf hw hc (hp _ ?_))
    exact Or.inr ⟨c, hc, rfl, ac, fun s hs a => tm_sc_le (m s hs a)⟩
theorem tx_pres {post : Int32 → Prop} {p : Nat} (hp : p < 256) (v : Int32) (h1 : ∀ j, j < 8 → v = nI j → p.testBit j = true → post 1) (h0 : (∀ j, j < 8 → v = nI j → ¬ p.testBit j = true) → post 0) : wpX_isPresent post (nI p, T, S, E, W) v := by
  rcases pk_ix v (n := 8) (by decide) with a | a | ⟨j, hj, rfl⟩
  · refine br_t a (h0 (fun j hj e => ?_))
    rw [e] at a
    exact absurd a (nI_pos (by omega))
  · have b : ¬ v < 0 := Int32.not_lt.mpr (Int32.le_trans (by decide) a)
    refine br_f b (br_t a (h0 (fun j hj e => ?_)))
    rw [e] at a
    exact absurd a (nI_ge hj (by decide))
  · have b : ¬ (8 : Int32) ≤ nI j := nI_ge (b := 8) hj (by decide)
    refine br_f (nI_pos (by omega)) (br_f b ?_)
    by_cases c : p.testBit j = true
    · exact br_f (fun z => (tm_xb p hp j hj).mp z c) (h1 j hj rfl c)
    · refine br_t ((tm_xb p hp j hj).mpr c) (h0 (fun i hi e => ?_))
      rw [nI_eq (by omega) (by omega)] at e
      rw [← e]
      exact c
/-- j is the least number below 8 that p doesn't hold, 8 when it holds all -/
def tm_Fr (p j : Nat) : Prop := j ≤ 8 ∧ (∀ i, i < j → p.testBit i = true) ∧ (j < 8 → ¬ p.testBit j = true)
theorem tx_free_l {post : Int32 → Prop} {p : Nat} (hp : p < 256) (h : ∀ j, tm_Fr p j → post (nI j)) : ∀ d j : Nat, j + d = 8 → (∀ i, i < j → p.testBit i = true) → wX_leastFreeNumber_2 post (nI p) T S E W (d + 1) (nI j) := by
  intro d
  induction d with
  | zero =>
    intro j hj hb
    have e : j = 8 := by omega
    subst e
    exact br_t (by decide) (h 8 ⟨by omega, hb, fun z => absurd z (by decide)⟩)
  | succ d ih =>
    intro j hj hb
    have hn : ¬ (8 : Int32) ≤ nI j := nI_ge (b := 8) (by omega) (by decide)
    refine br_f hn ?_
    by_cases c : p.testBit j = true
    · exact br_f (fun z => (tm_xb p hp j (by omega)).mp z c) (nm_r (nI_1 j) (ih (j + 1) (by omega) (lt_s hb c)))
    · exact br_t ((tm_xb p hp j (by omega)).mpr c) (h j ⟨by omega, hb, fun _ => c⟩)
theorem tx_free {post : Int32 → Prop} {p : Nat} (hp : p < 256) (h : ∀ j, tm_Fr p j → post (nI j)) : wpX_leastFreeNumber post (nI p, T, S, E, W) := ⟨9, tx_free_l hp h 8 0 rfl (fun i hi => absurd hi (Nat.not_lt_zero i))⟩
end
end
section
/-! the reference's private methods, each with a general post -/
section
variable {L : Int32} {H S E V D : Nat → Int32}
theorem ty_is {post : Int32 → Prop} {p : Nat} (hth : ∀ i, i < 8 → H i = nI (tm_d p i)) (v : Int32) (h1 : ∀ j, j < 8 → v = nI j → p.testBit j = true → post 1) (h0 : (∀ j, j < 8 → v = nI j → ¬ p.testBit j = true) → post 0) : wpY_is post (L, H, S, E, V, D) v := by
  rcases pk_ix v (n := 8) (by decide) with a | a | ⟨j, hj, rfl⟩
  · refine br_t a (h0 (fun j hj e => ?_))
    rw [e] at a
    exact absurd a (nI_pos (by omega))
  · have b : ¬ v < 0 := Int32.not_lt.mpr (Int32.le_trans (by decide) a)
    refine br_f b (br_t a (h0 (fun j hj e => ?_)))
    rw [e] at a
    exact absurd a (nI_ge hj (by decide))
  · have b : ¬ (8 : Int32) ≤ nI j := nI_ge (b := 8) hj (by decide)
    have hc : (nI j).toNatClampNeg = j := nI_clamp (by omega)
    refine br_f (nI_pos (by omega)) (br_f b ⟨vp_in_nI hj (by decide), ?_⟩)
    by_cases c : p.testBit j = true
    · exact br_f (by rw [hc, hth j hj, tm_d_t c]; decide) (h1 j hj rfl c)
    · refine br_t (by rw [hc, hth j hj, tm_d_f c]; decide) (h0 (fun i hi e => ?_))
      rw [nI_eq (by omega) (by omega)] at e
      rw [← e]
      exact c
theorem ty_jobs_l {post : Int32 → Prop} {p : Nat} (hp : p < 256) (hth : ∀ i, i < 8 → H i = nI (tm_d p i)) (h : post (nI p)) : ∀ d j : Nat, j + d = 8 → wY_jobs_4 post L H S E V D (d + 1) (nI (p % 2 ^ j)) (nI j) := by
  intro d
  induction d with
  | zero =>
    intro j hj
    have e : j = 8 := by omega
    subst e
    rw [show p % 2 ^ 8 = p from Nat.mod_eq_of_lt hp]
    exact br_t (by decide) h
  | succ d ih =>
    intro j hj
    have hn : ¬ (8 : Int32) ≤ nI j := nI_ge (b := 8) (by omega) (by decide)
    have hi : vp_in (nI j) 8 := vp_in_nI (by omega) (by decide)
    have hc : (nI j).toNatClampNeg = j := nI_clamp (by omega)
    have i := ih (j + 1) (by omega)
    by_cases c : p.testBit j = true
    · exact br_f hn ⟨hi, br_f (by rw [hc, hth j (by omega), tm_d_t c]; decide) (nm_r (tm_jb1 p hp j (by omega) c) (nm_r (nI_1 j) i))⟩
    · rw [← tm_jb0 p hp j (by omega) c] at i
      exact br_f hn ⟨hi, br_t (by rw [hc, hth j (by omega), tm_d_f c]; decide) (nm_r Int32.or_zero (nm_r (nI_1 j) i))⟩
theorem ty_jobs {post : Int32 → Prop} {p : Nat} (hp : p < 256) (hth : ∀ i, i < 8 → H i = nI (tm_d p i)) (h : post (nI p)) : wpY_jobs post (L, H, S, E, V, D) := by
  have i := ty_jobs_l (L := L) (S := S) (E := E) (V := V) (D := D) hp hth h 8 0 rfl
  rw [show p % 2 ^ 0 = 0 from Nat.mod_one p] at i
  exact ⟨9, i⟩
theorem ty_at_l {post : Int32 → Prop} {s : Nat} (hs : s < 256) (t : Int32) (hp : post (nI (tm_cnt S E s t 8))) : ∀ d j : Nat, j + d = 8 → wY_at_5 post (nI s) t L H S E V D (d + 1) (nI (tm_cnt S E s t j)) (nI j) := by
  intro d
  induction d with
  | zero =>
    intro j hj
    have e : j = 8 := by omega
    subst e
    exact br_t (by decide) hp
  | succ d ih =>
    intro j hj
    have h : ¬ (8 : Int32) ≤ nI j := nI_ge (b := 8) (by omega) (by decide)
    have hi : vp_in (nI j) 8 := vp_in_nI (by omega) (by decide)
    have hc : (nI j).toNatClampNeg = j := nI_clamp (by omega)
    have i := ih (j + 1) (by omega)
    have y := tm_yb s hs j (by omega)
    by_cases b : s.testBit j = true
    · have hb : ((nI s >>> (nI j &&& 31)) &&& 1) = 1 := by rw [y, tm_d_t b]; decide
      by_cases c1 : t < S j
      · rw [tm_cnt_n (fun z => Int32.not_lt.mpr z.2.1 c1)] at i
        exact br_f h (br_t hb ⟨hi, br_t (by rw [hc]; exact c1) (nm_r (Int32.add_zero _) (nm_r (nI_1 j) i))⟩)
      · by_cases c2 : E j ≤ t
        · rw [tm_cnt_n (fun z => Int32.not_le.mpr z.2.2 c2)] at i
          exact br_f h (br_t hb ⟨hi, br_f (by rw [hc]; exact c1) ⟨hi, br_t (by rw [hc]; exact c2) (nm_r (Int32.add_zero _) (nm_r (nI_1 j) i))⟩⟩)
        · rw [tm_cnt_y ⟨b, Int32.not_lt.mp c1, Int32.not_le.mp c2⟩] at i
          exact br_f h (br_t hb ⟨hi, br_f (by rw [hc]; exact c1) ⟨hi, br_f (by rw [hc]; exact c2) (nm_r (nI_1 _) (nm_r (nI_1 j) i))⟩⟩)
    · have hb : ¬ ((nI s >>> (nI j &&& 31)) &&& 1) = 1 := by rw [y, tm_d_f b]; decide
      rw [tm_cnt_n (fun z => b z.1)] at i
      exact br_f h (br_f hb (nm_r (Int32.add_zero _) (nm_r (nI_1 j) i)))
theorem ty_at {post : Int32 → Prop} {s : Nat} (hs : s < 256) (t : Int32) (hp : post (nI (tm_cnt S E s t 8))) : wpY_at post (L, H, S, E, V, D) (nI s) t := ⟨9, ty_at_l hs t hp 8 0 rfl⟩
theorem ty_sum_l {post : Int32 → Prop} {w : Nat → Nat} {s : Nat} (hw : ∀ i, i < 8 → V i = nI (w i)) (hs : s < 256) (hp : post (nI (tm_sum w s 8))) : ∀ d j : Nat, j + d = 8 → wY_sum_4 post (nI s) L H S E V D (d + 1) (nI (tm_sum w s j)) (nI j) := by
  intro d
  induction d with
  | zero =>
    intro j hj
    have e : j = 8 := by omega
    subst e
    exact br_t (by decide) hp
  | succ d ih =>
    intro j hj
    have h : ¬ (8 : Int32) ≤ nI j := nI_ge (b := 8) (by omega) (by decide)
    have hi : vp_in (nI j) 8 := vp_in_nI (by omega) (by decide)
    have hc : (nI j).toNatClampNeg = j := nI_clamp (by omega)
    have i := ih (j + 1) (by omega)
    have y := tm_yb s hs j (by omega)
    by_cases b : s.testBit j = true
    · have hb : ((nI s >>> (nI j &&& 31)) &&& 1) = 1 := by rw [y, tm_d_t b]; decide
      rw [tm_sum_y b] at i
      exact br_f h (br_t hb ⟨hi, nm_r (by rw [hc, hw j (by omega), nI_add]) (nm_r (nI_1 j) i)⟩)
    · have hb : ¬ ((nI s >>> (nI j &&& 31)) &&& 1) = 1 := by rw [y, tm_d_f b]; decide
      rw [tm_sum_n b] at i
      exact br_f h (br_f hb (nm_r (Int32.add_zero _) (nm_r (nI_1 j) i)))
theorem ty_sum {post : Int32 → Prop} {w : Nat → Nat} {s : Nat} (hw : ∀ i, i < 8 → V i = nI (w i)) (hs : s < 256) (hp : post (nI (tm_sum w s 8))) : wpY_sum post (L, H, S, E, V, D) (nI s) := ⟨9, ty_sum_l hw hs hp 8 0 rfl⟩
theorem ty_bef_l {post : Int32 → Prop} {a b : Nat} (ha : a < 256) (hb : b < 256) (h1 : tm_key b < tm_key a → post 1) (h0 : ¬ tm_key b < tm_key a → post 0) : ∀ d j : Nat, j + d = 8 → (∀ i, i < j → tm_d a i = tm_d b i) → wY_before_34 post (nI a) (nI b) L H S E V D (d + 1) (nI j) := by
  intro d
  induction d with
  | zero =>
    intro j hj e
    have z : j = 8 := by omega
    subst z
    have k := tm_keq e
    exact br_t (by decide) (h0 (by omega))
  | succ d ih =>
    intro j hj e
    have h : ¬ (8 : Int32) ≤ nI j := nI_ge (b := 8) (by omega) (by decide)
    have ya := tm_yb a ha j (by omega)
    have yb := tm_yb b hb j (by omega)
    have da := tm_d1 a j
    have db := tm_d1 b j
    refine br_f h ?_
    by_cases q : tm_d a j = tm_d b j
    · exact br_t (by rw [ya, yb, q]) (nm_r (nI_1 j) (ih (j + 1) (by omega) (lt_s e q)))
    · have k := tm_kl (by omega) e q
      refine br_f (by rw [ya, yb, nI_eq (by omega) (by omega)]; exact q) ?_
      by_cases o : tm_d a j = 1
      · exact br_t (by rw [ya, o]; decide) (h1 (k.mpr o))
      · exact br_f (by rw [ya, show tm_d a j = 0 by omega]; decide) (h0 (fun z => o (k.mp z)))
theorem ty_before {post : Int32 → Prop} {w : Nat → Nat} {a b : Nat} (hw : ∀ i, i < 8 → V i = nI (w i)) (hl : ∀ i, w i ≤ 20) (ha : a < 256) (hb : b < 256) (h1 : tm_sc w b < tm_sc w a → post 1) (h0 : ¬ tm_sc w b < tm_sc w a → post 0) : wpY_before post (L, H, S, E, V, D) (nI a) (nI b) := by
  have la := tm_sum_le hl a 8
  have lb := tm_sum_le hl b 8
  unfold wpY_before
  dsimp only
  refine ty_sum hw ha ?_
  refine ty_sum hw hb ?_
  refine pk_eq (tm_sum w a 8) (tm_sum w b 8) (fun c => ⟨9, ?_⟩) (fun c => ?_)
  · refine ty_bef_l ha hb (fun q => h1 (tm_sc_lt.mpr (Or.inr ⟨c, q⟩))) (fun q => h0 (fun y => ?_)) 8 0 rfl (fun i hi => absurd hi (Nat.not_lt_zero i))
    rcases tm_sc_lt.mp y with y | y
    · omega
    · exact q y.2
  · refine pk_le (tm_sum w a 8) (tm_sum w b 8) (fun c2 => h0 (fun y => ?_)) (fun c2 => h1 (tm_sc_lt.mpr (Or.inl c2)))
    rcases tm_sc_lt.mp y with y | y
    · omega
    · exact c y.1
end
/-- the sets of present jobs that fit k tracks -/
def tm_B (p : Nat) (S E : Nat → Int32) (k : Nat) (s : Nat) : Prop := (nI s &&& (nI p ^^^ (-1))) = 0 ∧ tm_most S E s 16 ≤ k
theorem tm_B0 (p : Nat) (S E : Nat → Int32) (k : Nat) : tm_B p S E k 0 := ⟨Int32.zero_and, by rw [tm_most_e]; exact Nat.zero_le k⟩
/-- what work() leaves in load -/
def tm_Ld (p : Nat) (S E D : Nat → Int32) : Prop := ∀ s, s < 256 → (nI s &&& (nI p ^^^ (-1))) = 0 → D s = nI (tm_most S E s 16)
section
variable {L : Int32} {H S E V D : Nat → Int32}
theorem ty_best_l {post : Int32 → Prop} {w : Nat → Nat} {p k : Nat} (hD : tm_Ld p S E D) (hw : ∀ i, i < 8 → V i = nI (w i)) (hl : ∀ i, w i ≤ 20) (hk : k < 2 ^ 31)
    (hp : ∀ r, tm_BS (tm_B p S E k) (tm_sc w) 256 r → post r) : ∀ d i c : Nat, i + d = 256 → c < i → tm_B p S E k c → (∀ s, s < i → tm_B p S E k s → tm_sc w s ≤ tm_sc w c) → wY_best_10 post (nI k) (nI p) L H S E V D (d + 1) (nI c) (nI i) := by
  intro d
  induction d with
  | zero =>
    intro i c hi hc ac m
    have e : i = 256 := by omega
    subst e
    exact br_t (by decide) (hp _ (Or.inr ⟨c, hc, rfl, ac, m⟩))
  | succ d ih =>
    intro i c hi hc ac m
    have hn : ¬ (256 : Int32) ≤ nI i := nI_ge (b := 256) (by omega) (by decide)
    have hx : (nI i).toNatClampNeg = i := nI_clamp (by omega)
    have l2 := tm_most_le S E i 16
    have keep : (tm_B p S E k i → tm_sc w i ≤ tm_sc w c) → wY_best_10 post (nI k) (nI p) L H S E V D (d + 1) (nI c) (nI (i + 1)) := by
      intro z
      refine ih (i + 1) c (by omega) (by omega) ac (fun s hs a => ?_)
      rcases Nat.lt_or_ge s i with y | y
      · exact m s y a
      · have e : s = i := by omega
        subst e
        exact z a
    refine br_f hn ?_
    by_cases c1 : (nI i &&& (nI p ^^^ (-1))) = 0
    · refine br_t c1 ⟨vp_in_nI (by omega) (by decide), ?_⟩
      refine pk_lt k (tm_most S E i 16) (fun q => nm_r (nI_1 i) (keep (fun a => ?_))) (fun q => ?_) rfl (by rw [hx]; exact hD i (by omega) c1)
      · have := a.2
        omega
      · refine ty_before hw hl (by omega) (by omega) (fun y => ?_) (fun y => ?_)
        · refine br_f (by decide) (nm_r (nI_1 i) ?_)
          refine ih (i + 1) i (by omega) (by omega) ⟨c1, q⟩ (fun s hs a => ?_)
          rcases Nat.lt_or_ge s i with z | z
          · exact Nat.le_of_lt (Nat.lt_of_le_of_lt (m s z a) y)
          · rw [show s = i by omega]
            exact Nat.le_refl _
        · exact br_t rfl (nm_r (nI_1 i) (keep (fun _ => Nat.le_of_not_lt y)))
    · exact br_f c1 (nm_r (nI_1 i) (keep (fun a => absurd a.1 c1)))
theorem ty_best {post : Int32 → Prop} {w : Nat → Nat} {p k : Nat} (hp8 : p < 256) (hth : ∀ i, i < 8 → H i = nI (tm_d p i)) (hD : tm_Ld p S E D) (hw : ∀ i, i < 8 → V i = nI (w i)) (hl : ∀ i, w i ≤ 20) (hk : k < 2 ^ 31)
    (hp : ∀ r, tm_BS (tm_B p S E k) (tm_sc w) 256 r → post r) : wpY_best post (L, H, S, E, V, D) (nI k) := by
  unfold wpY_best
  dsimp only
  refine ty_jobs hp8 hth ⟨256, ?_⟩
  refine ty_best_l hD hw hl hk hp 255 1 0 rfl (by decide) (tm_B0 p S E k) (fun s hs a => ?_)
  rw [show s = 0 by omega]
  exact Nat.le_refl _
theorem ty_w23 {post : SY → Prop} {J : Int32 → (Nat → Int32) → (Nat → Int32) → (Nat → Int32) → (Nat → Int32) → (Nat → Int32) → Prop} {p s : Nat} (hs : s < 256) (c1 : (nI s &&& (nI p ^^^ (-1))) = 0) :
    ∀ (d t : Nat) (D : Nat → Int32), t + d = 16 → D s = nI (tm_most S E s t) → (∀ D', (∀ i, i ≠ s → D' i = D i) → D' s = nI (tm_most S E s 16) → J (nI (s + 1)) H S E V D') → wY_work_23 post J (nI p) (nI s) L (d + 1) (nI t) H S E V D := by
  intro d
  induction d with
  | zero =>
    intro t D ht hD g
    have e : t = 16 := by omega
    subst e
    exact br_t (by decide) (nm_r (nI_1 s) (g D (fun _ _ => rfl) hD))
  | succ d ih =>
    intro t D ht hD g
    have hn : ¬ (16 : Int32) ≤ nI t := nI_ge (b := 16) (by omega) (by decide)
    have hx : (nI s).toNatClampNeg = s := nI_clamp (by omega)
    have hv : vp_in (nI s) 256 := vp_in_nI hs (by decide)
    have l1 := tm_cnt_le S E s (nI t) 8
    have l2 := tm_most_le S E s t
    have up : ∀ x : Int32, x = nI (tm_most S E s (t + 1)) → wY_work_23 post J (nI p) (nI s) L (d + 1) (nI (t + 1)) H S E V (upd D (nI s).toNatClampNeg x) := by
      intro x ex
      rw [hx]
      refine ih (t + 1) (upd D s x) (by omega) (by rw [pk_us, ex]) (fun D' h1 h2 => g D' (fun i hi => ?_) h2)
      rw [h1 i hi, pk_un hi]
    refine br_f hn (br_t c1 (ty_at hs (nI t) ⟨hv, ?_⟩))
    by_cases c : tm_most S E s t < tm_cnt S E s (nI t) 8
    · refine br_f (by rw [hx, hD]; exact nI_ge c (by omega)) ⟨hv, nm_e (nm_r (nI_1 t) (up _ ?_))⟩
      rw [tm_most_y c]
    · refine br_t (by rw [hx, hD]; exact nI_le (by omega) (by omega)) ⟨hv, hv, nm_e (nm_r (nI_1 t) (up _ ?_))⟩
      rw [tm_most_n c, hx, hD]
theorem ty_w7 {post : SY → Prop} {p : Nat} (g : ∀ D, tm_Ld p S E D → post (L, H, S, E, V, D)) :
    ∀ (d s : Nat) (D : Nat → Int32), s + d = 256 → (∀ i, i < s → (nI i &&& (nI p ^^^ (-1))) = 0 → D i = nI (tm_most S E i 16)) → wY_work_7 post (nI p) L (d + 1) (nI s) H S E V D := by
  intro d
  induction d with
  | zero =>
    intro s D hs hD
    have e : s = 256 := by omega
    subst e
    exact br_t (by decide) (g D hD)
  | succ d ih =>
    intro s D hs hD
    have hn : ¬ (256 : Int32) ≤ nI s := nI_ge (b := 256) (by omega) (by decide)
    have hx : (nI s).toNatClampNeg = s := nI_clamp (by omega)
    have hv : vp_in (nI s) 256 := vp_in_nI (by omega) (by decide)
    refine br_f hn ⟨hv, nm_e ?_⟩
    rw [hx]
    by_cases c1 : (nI s &&& (nI p ^^^ (-1))) = 0
    · refine ⟨17, ty_w23 (by omega) c1 16 0 (upd D s 0) rfl (by rw [pk_us]; rfl) (fun D' h1 h2 => ?_)⟩
      refine ih (s + 1) D' (by omega) (fun i hi a => ?_)
      rcases Nat.lt_or_ge i s with z | z
      · rw [h1 i (by omega), pk_un (by omega)]
        exact hD i z a
      · rw [show i = s by omega]
        exact h2
    · refine ⟨1, br_f (by decide) (br_f c1 (nm_r (nI_1 s) ?_))⟩
      refine ih (s + 1) _ (by omega) (fun i hi a => ?_)
      rcases Nat.lt_or_ge i s with z | z
      · rw [pk_un (by omega)]
        exact hD i z a
      · exact absurd ((show i = s by omega) ▸ a) c1
theorem ty_work {post : SY → Prop} {p : Nat} (hp : p < 256) (hth : ∀ i, i < 8 → H i = nI (tm_d p i)) (g : ∀ D', tm_Ld p S E D' → post (L, H, S, E, V, D')) : wpY_work post (L, H, S, E, V, D) := by
  unfold wpY_work
  dsimp only
  refine ty_jobs hp hth ⟨257, ?_⟩
  exact ty_w7 g 256 0 D rfl (fun i hi => absurd hi (Nat.not_lt_zero i))
end
end
section
/-! the price and totalWith: loops of the reference, walks of the component -/
theorem tm_A00 {p k s : Nat} {S E : Nat → Int32} : tm_A (nI p) 0 0 S E k s ↔ tm_B p S E k s :=
  ⟨fun a => ⟨a.1, a.2.2.2⟩, fun b => ⟨b.1, Int32.and_zero, Int32.and_zero, b.2⟩⟩
theorem tm_bs_mx {p k : Nat} {S E : Nat → Int32} {w : Nat → Nat} {r : Int32} (h : tm_BS (tm_B p S E k) (tm_sc w) 256 r) :
    ∃ c, c < 256 ∧ r = nI c ∧ tm_MX (tm_B p S E k) (fun s => tm_sum w s 8) 256 (nI (tm_sum w c 8)) := by
  rcases h with ⟨_, h⟩ | ⟨c, hc, e, ac, m⟩
  · exact absurd (tm_B0 p S E k) (h 0 (by decide))
  · exact ⟨c, hc, e, Or.inr ⟨c, hc, rfl, ac, fun s hs a => tm_sc_le (m s hs a)⟩⟩
/-- m is the least number above v and at most 20 with C, 21 when there is none -/
def tm_Lst (C : Nat → Prop) (v m : Nat) : Prop := (m = 21 ∧ ∀ x, v < x → x ≤ 20 → ¬ C x) ∨ (v < m ∧ m ≤ 20 ∧ C m ∧ ∀ x, v < x → x < m → ¬ C x)
theorem tm_lst0 {C : Nat → Prop} : tm_Lst C 20 21 := Or.inl ⟨rfl, fun x a b => by omega⟩
theorem tm_lst_y {C : Nat → Prop} {v : Nat} (hv : v + 1 ≤ 20) (c : C (v + 1)) : tm_Lst C v (v + 1) := Or.inr ⟨by omega, hv, c, fun x a b => by omega⟩
theorem tm_lst_n {C : Nat → Prop} {v m : Nat} (h : tm_Lst C (v + 1) m) (c : ¬ C (v + 1)) : tm_Lst C v m := by
  rcases h with ⟨e, h⟩ | ⟨h1, h2, h3, h4⟩
  · refine Or.inl ⟨e, fun x a b z => ?_⟩
    rcases Nat.lt_or_ge (v + 1) x with y | y
    · exact h x y b z
    · exact c ((show x = v + 1 by omega) ▸ z)
  · refine Or.inr ⟨by omega, h2, h3, fun x a b z => ?_⟩
    rcases Nat.lt_or_ge (v + 1) x with y | y
    · exact h4 x y b z
    · exact c ((show x = v + 1 by omega) ▸ z)
theorem tm_lst_one {C : Nat → Prop} {m m' : Nat} (h : tm_Lst C 0 m) (h' : tm_Lst C 0 m') : m' = m := by
  rcases h with ⟨e, h⟩ | ⟨h1, h2, h3, h4⟩
  · rcases h' with ⟨e', _⟩ | ⟨g1, g2, g3, _⟩
    · omega
    · exact absurd g3 (h m' g1 g2)
  · rcases h' with ⟨e', h'⟩ | ⟨g1, g2, g3, g4⟩
    · exact absurd h3 (h' m h1 h2)
    · rcases Nat.lt_trichotomy m m' with z | z | z
      · exact absurd h3 (g4 m h1 z)
      · exact z.symm
      · exact absurd g3 (h4 m' g1 z)
/-- C says with which worths j is chosen -/
def tm_Pr (p : Nat) (S E : Nat → Int32) (k : Nat) (w : Nat → Nat) (j : Nat) (C : Nat → Prop) : Prop :=
  ∀ (v : Nat) (r : Int32), 1 ≤ v → v ≤ 20 → tm_BS (tm_B p S E k) (tm_sc (tm_put w j v)) 256 r → ∃ c, c < 256 ∧ r = nI c ∧ (c.testBit j = true ↔ C v)
section
variable {H S E V D : Nat → Int32}
theorem ty_price_l {post : Int32 → SY → Prop} {w : Nat → Nat} {p k j : Nat} {C : Nat → Prop} (hp8 : p < 256) (hth : ∀ i, i < 8 → H i = nI (tm_d p i)) (hD : tm_Ld p S E D) (hV : ∀ i, V i = nI (w i)) (hl : ∀ i, w i ≤ 20) (hk : k < 2 ^ 31) (hj : j < 8)
    (hC : tm_Pr p S E k w j C) (hp : ∀ m, tm_Lst C 0 m → post (nI m) (nI k, H, S, E, V, D)) :
    ∀ (v m : Nat) (V' : Nat → Int32), v ≤ 20 → (∀ i, i ≠ j → V' i = V i) → tm_Lst C v m → wY_price_28 post (nI j) (nI (w j)) (nI k) (v + 1) (nI m) (nI v) H S E V' D := by
  have hx : (nI j).toNatClampNeg = j := nI_clamp (by omega)
  have hv8 : vp_in (nI j) 8 := vp_in_nI hj (by decide)
  intro v
  induction v with
  | zero =>
    intro m V' _ h1 h2
    have e : upd V' (nI j).toNatClampNeg (nI (w j)) = V := by
      rw [hx]
      funext i
      by_cases z : i = j
      · subst z
        rw [pk_us, hV]
      · rw [pk_un z, h1 i z]
    exact br_t (by decide) ⟨hv8, nm_r e (hp m h2)⟩
  | succ v ih =>
    intro m V' hv h1 h2
    have hn : ¬ nI (v + 1) < 1 := nI_nlt (b := 1) (by omega) (by omega)
    have u1 : ∀ i, i ≠ j → upd V' j (nI (v + 1)) i = V i := fun i hi => by rw [pk_un hi, h1 i hi]
    refine br_f hn ⟨hv8, nm_e ?_⟩
    rw [hx]
    refine ty_best (w := tm_put w j (v + 1)) hp8 hth hD (fun i hi => ?_) (fun i => ?_) hk (fun r hr => ?_)
    · by_cases z : i = j
      · subst z
        rw [pk_us, tm_put_s]
      · rw [u1 i z, hV, tm_put_n z]
    · unfold tm_put
      split
      · omega
      · exact hl i
    · obtain ⟨c, hc, rfl, iff⟩ := hC (v + 1) r (by omega) hv hr
      have y := tm_yb c hc j hj
      by_cases q : c.testBit j = true
      · exact br_t (by rw [y, tm_d_t q]; decide) (nm_r (pk_m1 v) (ih (v + 1) _ (by omega) u1 (tm_lst_y hv (iff.mp q))))
      · exact br_f (by rw [y, tm_d_f q]; decide) (nm_r (pk_m1 v) (ih m _ (by omega) u1 (tm_lst_n h2 (fun z => q (iff.mpr z)))))
theorem ty_price {post : Int32 → SY → Prop} {w : Nat → Nat} {p k j : Nat} {C : Nat → Prop} (hp8 : p < 256) (hth : ∀ i, i < 8 → H i = nI (tm_d p i)) (hV : ∀ i, V i = nI (w i)) (hl : ∀ i, w i ≤ 20) (hk : k < 2 ^ 31) (hj : j < 8) (hb : p.testBit j = true)
    (hC : tm_Pr p S E k w j C) (hp : ∀ m D', tm_Lst C 0 m → post (nI m) (nI k, H, S, E, V, D')) : wpY_price post (nI k, H, S, E, V, D) (nI j) := by
  have hx : (nI j).toNatClampNeg = j := nI_clamp (by omega)
  have hv8 : vp_in (nI j) 8 := vp_in_nI hj (by decide)
  unfold wpY_price
  dsimp only
  refine ty_is hth (nI j) (fun i hi e b => ?_) (fun n => absurd hb (n j hj rfl))
  refine br_f (by decide) (ty_work hp8 hth (fun D' hD => ?_))
  refine ⟨hv8, nm_r (e' := nI (w j)) (by rw [hx]; exact hV j) ⟨21, ?_⟩⟩
  exact ty_price_l hp8 hth hD hV hl hk hj hC (fun m z => hp m D' z) 20 21 V (Nat.le_refl 20) (fun _ _ => rfl) tm_lst0
theorem ty_tw_l {post : Int32 → SY → Prop} {w : Nat → Nat} {p k : Nat} {x1 x2 : Int32} (hD : tm_Ld p S E D) (hw : ∀ i, i < 8 → V i = nI (w i)) (hl : ∀ i, w i ≤ 20) (hk : k < 2 ^ 31)
    (hp : ∀ r, tm_MX (tm_A (nI p) (x1 &&& nI p) x2 S E k) (fun s => tm_sum w s 8) 256 r → post r (nI k, H, S, E, V, D)) :
    ∀ (d i : Nat) (r : Int32), i + d = 256 → tm_MX (tm_A (nI p) (x1 &&& nI p) x2 S E k) (fun s => tm_sum w s 8) i r → wY_totalWith_15 post x1 x2 (nI p) (nI k) H S E V D (d + 1) r (nI i) := by
  have hf : ∀ s, (fun s => tm_sum w s 8) s < 2 ^ 31 := fun s => by
    have := tm_sum_le hl s 8
    show tm_sum w s 8 < 2 ^ 31
    omega
  intro d
  induction d with
  | zero =>
    intro i r hi h
    have e : i = 256 := by omega
    subst e
    exact br_t (by decide) (hp r h)
  | succ d ih =>
    intro i r hi h
    have hn : ¬ (256 : Int32) ≤ nI i := nI_ge (b := 256) (by omega) (by decide)
    have hx : (nI i).toNatClampNeg = i := nI_clamp (by omega)
    have l2 := tm_most_le S E i 16
    have no : ¬ tm_A (nI p) (x1 &&& nI p) x2 S E k i → wY_totalWith_15 post x1 x2 (nI p) (nI k) H S E V D (d + 1) r (nI (i + 1)) := fun z => ih (i + 1) r (by omega) (tm_mx_no h z)
    refine br_f hn ?_
    by_cases c1 : (nI i &&& (nI p ^^^ (-1))) = 0
    · refine br_t c1 ⟨vp_in_nI (by omega) (by decide), ?_⟩
      refine pk_lt k (tm_most S E i 16) (fun q => nm_r (nI_1 i) (no (fun a => ?_))) (fun q => ?_) rfl (by rw [hx]; exact hD i (by omega) c1)
      · have := a.2.2.2
        omega
      · by_cases c2 : ((x1 &&& nI p) &&& (nI i ^^^ (-1))) = 0
        · refine br_t c2 ?_
          by_cases c3 : (x2 &&& nI i) = 0
          · have a : tm_A (nI p) (x1 &&& nI p) x2 S E k i := ⟨c1, (tm_mst _ _).mpr c2, by rw [Int32.and_comm]; exact c3, q⟩
            refine br_t c3 (ty_sum hw (by omega) ?_)
            by_cases g : r < nI (tm_sum w i 8)
            · exact br_f (Int32.not_le.mpr g) (nm_r (nI_1 i) (ih (i + 1) _ (by omega) (tm_mx_gt hf h a g)))
            · exact br_t (Int32.not_lt.mp g) (nm_r (nI_1 i) (ih (i + 1) _ (by omega) (tm_mx_le hf h a g)))
          · exact br_f c3 (nm_r (nI_1 i) (no (fun a => c3 (by rw [Int32.and_comm]; exact a.2.2.1))))
        · exact br_f c2 (nm_r (nI_1 i) (no (fun a => c2 ((tm_mst _ _).mp a.2.1))))
    · exact br_f c1 (nm_r (nI_1 i) (no (fun a => c1 a.1)))
theorem ty_totalWith {post : Int32 → SY → Prop} {w : Nat → Nat} {p k : Nat} {x1 x2 : Int32} (hp8 : p < 256) (hth : ∀ i, i < 8 → H i = nI (tm_d p i)) (hw : ∀ i, i < 8 → V i = nI (w i)) (hl : ∀ i, w i ≤ 20) (hk : k < 2 ^ 31)
    (hp : ∀ r D', tm_MX (tm_A (nI p) (x1 &&& nI p) x2 S E k) (fun s => tm_sum w s 8) 256 r → post r (nI k, H, S, E, V, D')) : wpY_totalWith post (nI k, H, S, E, V, D) x1 x2 := by
  unfold wpY_totalWith
  dsimp only
  refine ty_work hp8 hth (fun D' hD => ?_)
  refine ty_jobs hp8 hth ⟨257, ?_⟩
  exact ty_tw_l hD hw hl hk (fun r h => hp r D' h) 256 0 (-1) rfl (tm_mx0 _ _)
end
section
variable {P T : Int32} {S E W : Nat → Int32}
theorem tx_p82 {post : Int32 → Prop} {z : Int32} {C : Nat → Prop} (G : Int) (hz : z.toInt = G) (hC : ∀ v : Nat, 1 ≤ v → v ≤ 20 → (C v ↔ G ≤ (v : Int))) (hp : ∀ m, tm_Lst C 0 m → post (nI m)) : wX_price_82 post z P T S E W := by
  have o1 : (1 : Int32).toInt = 1 := by decide
  have o2 : (20 : Int32).toInt = 20 := by decide
  by_cases c1 : 1 ≤ G
  · have h1 : (1 : Int32) ≤ z := by rw [Int32.le_iff_toInt_le, hz, o1]; exact c1
    by_cases c2 : G ≤ 20
    · have h2 : z ≤ (20 : Int32) := by rw [Int32.le_iff_toInt_le, hz, o2]; exact c2
      have e : z = nI G.toNat := by
        apply Int32.toInt_inj.mp
        rw [hz, nI_toInt (by omega)]
        omega
      refine br_t h1 (br_t h2 ?_)
      rw [e]
      refine hp G.toNat (Or.inr ⟨by omega, by omega, (hC _ (by omega) (by omega)).mpr (by omega), fun x a b c => ?_⟩)
      have := (hC x (by omega) (by omega)).mp c
      omega
    · have h2 : ¬ z ≤ (20 : Int32) := by rw [Int32.le_iff_toInt_le, hz, o2]; exact c2
      refine br_t h1 (br_f h2 (hp 21 (Or.inl ⟨rfl, fun x a b c => ?_⟩)))
      have := (hC x (by omega) (by omega)).mp c
      omega
  · have h1 : ¬ (1 : Int32) ≤ z := by rw [Int32.le_iff_toInt_le, hz, o1]; exact c1
    refine br_f h1 (hp 1 (Or.inr ⟨by omega, by omega, (hC 1 (by omega) (by omega)).mpr (by omega), fun x a b c => ?_⟩))
    omega
theorem tx_price {post : Int32 → Prop} {w : Nat → Nat} {p k j : Nat} (hp8 : p < 256) (hw : ∀ i, W i = nI (w i)) (hl : ∀ i, w i ≤ 20) (hk : k < 2 ^ 31) (hj : j < 8) (hb : p.testBit j = true)
    (hp : ∀ (C : Nat → Prop) m, tm_Pr p S E k w j C → tm_Lst C 0 m → post (nI m)) : wpX_price post (nI p, nI k, S, E, W) (nI j) := by
  have hx : (nI j).toNatClampNeg = j := nI_clamp (by omega)
  have hv8 : vp_in (nI j) 8 := vp_in_nI hj (by decide)
  have hw' : ∀ i, i < 8 → W i = nI (w i) := fun i _ => hw i
  have iA : ∀ s, s < 256 → (tm_A (nI p) ((1 : Int32) <<< (nI j &&& 31)) 0 S E k s ↔ (tm_B p S E k s ∧ s.testBit j = true)) := fun s hs =>
    ⟨fun a => ⟨⟨a.1, a.2.2.2⟩, (tm_xm s hs j hj).mp a.2.1⟩, fun b => ⟨b.1.1, (tm_xm s hs j hj).mpr b.2, Int32.and_zero, b.1.2⟩⟩
  have iB : ∀ s, s < 256 → (tm_A (nI p) 0 ((1 : Int32) <<< (nI j &&& 31)) S E k s ↔ (tm_B p S E k s ∧ ¬ s.testBit j = true)) := fun s hs =>
    ⟨fun a => ⟨⟨a.1, a.2.2.2⟩, (tm_xb s hs j hj).mp a.2.2.1⟩, fun b => ⟨b.1.1, Int32.and_zero, (tm_xb s hs j hj).mpr b.2, b.1.2⟩⟩
  unfold wpX_price
  dsimp only
  refine tx_pres hp8 (nI j) (fun i hi e b => ?_) (fun n => absurd hb (n j hj rfl))
  refine br_f (by decide) (tx_bestSet hw' hl hk (fun r hr => ?_))
  have hr2 := tm_bs_iff iA hr
  by_cases e : r = -1
  · refine br_t e (hp (fun _ => False) 21 ?_ (Or.inl ⟨rfl, fun _ _ _ z => z⟩))
    intro v r' _ _ h
    rcases h with ⟨_, h⟩ | ⟨c, hc, e', Bc, _⟩
    · exact absurd (tm_B0 p S E k) (h 0 (by decide))
    · refine ⟨c, hc, e', ⟨fun q => ?_, False.elim⟩⟩
      rcases hr2 with ⟨_, n⟩ | ⟨c', hc', e2, _⟩
      · exact n c hc ⟨Bc, q⟩
      · exact tm_neg (by omega) (e2.symm.trans e)
  · obtain ⟨a, la, rfl, ⟨Ba, ja⟩, ma⟩ := tm_bs_some hr2 e
    refine br_f e (tx_bestSet hw' hl hk (fun r hr => ?_))
    have hr3 := tm_bs_iff iB hr
    have e3 : ¬ r = -1 := fun z => by
      rcases hr3 with ⟨_, n⟩ | ⟨c, hc, e', _⟩
      · exact n 0 (by decide) ⟨tm_B0 p S E k, by rw [Nat.zero_testBit]; decide⟩
      · exact tm_neg (by omega) (e'.symm.trans z)
    obtain ⟨b, lb, rfl, ⟨Bb, jb⟩, mb⟩ := tm_bs_some hr3 e3
    have sa := tm_sum_le hl a 8
    have sb := tm_sum_le hl b 8
    have sj := hl j
    have hd : (nI (tm_sum w b 8) - nI (tm_sum w a 8) + nI (w j)).toInt = (tm_sum w b 8 : Int) - tm_sum w a 8 + w j := by
      rw [Int32.toInt_add, pk_sub_toInt (by omega) (by omega), nI_toInt (by omega)]
      exact Int.bmod_eq_of_le (by omega) (by omega)
    have hd1 : (nI (tm_sum w b 8) - nI (tm_sum w a 8) + nI (w j) + 1).toInt = (tm_sum w b 8 : Int) - tm_sum w a 8 + w j + 1 := by
      rw [Int32.toInt_add, hd, show (1 : Int32).toInt = 1 from by decide]
      exact Int.bmod_eq_of_le (by omega) (by omega)
    have pr : tm_Pr p S E k w j (fun v => tm_sum w b 8 + w j < tm_sum w a 8 + v ∨ (tm_sum w b 8 + w j = tm_sum w a 8 + v ∧ tm_key b < tm_key a)) :=
      fun v r' _ _ h => tm_price hj ⟨la, Ba, ja, ma⟩ ⟨lb, Bb, jb, mb⟩ h
    refine tx_worthOf hw' lb ?_
    refine tx_worthOf hw' la ?_
    refine ⟨hv8, nm_r (e' := nI (tm_sum w b 8) - nI (tm_sum w a 8) + nI (w j)) (by rw [hx, hw]) ?_⟩
    refine tx_least la lb (fun q => br_f (by decide) ?_) (fun q => br_t rfl ?_)
    · refine tx_p82 _ hd (fun v h1 h2 => ?_) (fun m hm => hp _ m pr hm)
      constructor
      · intro h
        rcases h with h | h <;> omega
      · intro h
        omega
    · refine tx_p82 _ hd1 (fun v h1 h2 => ?_) (fun m hm => hp _ m pr hm)
      constructor
      · intro h
        rcases h with h | h
        · omega
        · exact absurd h.2 q
      · intro h
        omega
end
end
section
/-! the relation, and what bring, take, revalue do to it -/
def tm_Ok (p k : Nat) (w : Nat → Nat) (S E W H : Nat → Int32) : Prop :=
  p < 256 ∧ k ≤ 4 ∧ (∀ i, i < 8 → H i = nI (tm_d p i)) ∧ (∀ i, W i = nI (w i)) ∧ (∀ i, w i ≤ 20) ∧ (∀ i, 0 ≤ S i ∧ E i ≤ 16)
def i_Rel (_ : Nat) (u : SX) (v : SY) : Prop :=
  ∃ (p k : Nat) (w : Nat → Nat) (S E W H D : Nat → Int32), u = (nI p, nI k, S, E, W) ∧ v = (nI k, H, S, E, W, D) ∧ tm_Ok p k w S E W H
theorem tm_rel {n p k : Nat} {w : Nat → Nat} {S E W H : Nat → Int32} (D : Nat → Int32) (ok : tm_Ok p k w S E W H) : i_Rel n (nI p, nI k, S, E, W) (nI k, H, S, E, W, D) := ⟨p, k, w, S, E, W, H, D, rfl, rfl, ok⟩
theorem tm_start {n : Nat} (hn : n ≤ 4) : i_Rel 1 (0, nI n, (fun _ => 0), (fun _ => 0), (fun _ => 0)) (nI n, (fun _ => 0), (fun _ => 0), (fun _ => 0), (fun _ => 0), (fun _ => 0)) := by
  refine ⟨0, n, fun _ => 0, fun _ => 0, fun _ => 0, fun _ => 0, fun _ => 0, fun _ => 0, rfl, rfl, by decide, hn, fun i _ => ?_, fun _ => rfl, fun _ => Nat.zero_le 20, fun _ => ⟨show (0 : Int32) ≤ 0 by decide, show (0 : Int32) ≤ 16 by decide⟩⟩
  rw [tm_d_f (by rw [Nat.zero_testBit]; decide)]
  rfl
def tm_Sp (a b : Int32) : Prop := ¬ a < 0 ∧ ¬ b ≤ a ∧ ¬ 16 < b
def tm_Wo (a : Int32) : Prop := ¬ a < 1 ∧ ¬ 20 < a
theorem tm_wo {a : Int32} (h : tm_Wo a) : ∃ y : Nat, y ≤ 20 ∧ a = nI y :=
  nI_of2 (M := 20) (n := 20) (by decide) (fun z => h.1 (Int32.lt_trans z (by decide))) (Int32.not_lt.mp h.2)
theorem tm_v0 : vp_nar .boolean 0 = 0 := rfl
theorem tm_v1 : vp_nar .boolean 1 = 1 := rfl
theorem tm_ok_w {p k j y : Nat} {w : Nat → Nat} {S E W H : Nat → Int32} (ok : tm_Ok p k w S E W H) (hy : y ≤ 20) : tm_Ok p k (tm_put w j y) S E (upd W j (nI y)) H := by
  obtain ⟨hp, hk, hH, hW, hl, hS⟩ := ok
  refine ⟨hp, hk, hH, fun i => ?_, fun i => ?_, hS⟩
  · by_cases z : i = j
    · subst z
      rw [pk_us, tm_put_s]
    · rw [pk_un z, tm_put_n z, hW]
  · unfold tm_put
    split
    · exact hy
    · exact hl i
theorem tm_ok_s {p k j : Nat} {w : Nat → Nat} {S E W H : Nat → Int32} {a b : Int32} (ok : tm_Ok p k w S E W H) (h : tm_Sp a b) : tm_Ok p k w (upd S j a) (upd E j b) W H := by
  obtain ⟨hp, hk, hH, hW, hl, hS⟩ := ok
  refine ⟨hp, hk, hH, hW, hl, fun i => ?_⟩
  by_cases z : i = j
  · subst z
    rw [pk_us, pk_us]
    exact ⟨Int32.not_lt.mp h.1, Int32.not_lt.mp h.2.2⟩
  · rw [pk_un z, pk_un z]
    exact hS i
theorem tm_ok_in {p k j : Nat} {w : Nat → Nat} {S E W H : Nat → Int32} (hj : j < 8) (ok : tm_Ok p k w S E W H) : tm_Ok (p ||| 2 ^ j) k w S E W (upd H j 1) := by
  obtain ⟨hp, hk, hH, hW, hl, hS⟩ := ok
  refine ⟨(tm_or p hp j hj).2, hk, fun i hi => ?_, hW, hl, hS⟩
  by_cases z : i = j
  · subst z
    rw [pk_us, tm_d_t (by rw [tm_or_bit, decide_eq_true rfl, Bool.or_true])]
    rfl
  · rw [pk_un z, hH i hi]
    unfold tm_d
    rw [tm_or_bit, decide_eq_false (fun q => z q.symm), Bool.or_false]
theorem tm_ok_out {p k j : Nat} {w : Nat → Nat} {S E W H : Nat → Int32} (hj : j < 8) (ok : tm_Ok p k w S E W H) : tm_Ok (p &&& (255 - 2 ^ j)) k w S E W (upd H j 0) := by
  obtain ⟨hp, hk, hH, hW, hl, hS⟩ := ok
  refine ⟨(tm_and p hp j hj).2, hk, fun i hi => ?_, hW, hl, hS⟩
  by_cases z : i = j
  · subst z
    rw [pk_us, tm_d_f (by rw [tm_and_bit hj hj, decide_eq_false (fun q => q rfl), Bool.and_false]; decide)]
    rfl
  · rw [pk_un z, hH i hi]
    unfold tm_d
    rw [tm_and_bit hj hi, decide_eq_true (show j ≠ i from fun q => z q.symm), Bool.and_true]
section
variable {P T L : Int32} {S E W V H D : Nat → Int32}
theorem tx_span {post : Int32 → Prop} {a b : Int32} (h1 : tm_Sp a b → post 1) (h0 : ¬ tm_Sp a b → post 0) : wpX_isSpan post (P, T, S, E, W) a b :=
  br_c (fun c => h0 (fun z => z.1 c)) (fun c => br_c (fun c2 => h0 (fun z => z.2.1 c2)) (fun c2 => br_c (fun c3 => h0 (fun z => z.2.2 c3)) (fun c3 => h1 ⟨c, c2, c3⟩)))
theorem tx_worth {post : Int32 → Prop} {a : Int32} (h1 : tm_Wo a → post 1) (h0 : ¬ tm_Wo a → post 0) : wpX_isWorth post (P, T, S, E, W) a :=
  br_c (fun c => h0 (fun z => z.1 c)) (fun c => br_c (fun c2 => h0 (fun z => z.2 c2)) (fun c2 => h1 ⟨c, c2⟩))
theorem ty_bring_l {post : Int32 → SY → Prop} {a b c : Int32} {p j0 : Nat} (hth : ∀ i, i < 8 → H i = nI (tm_d p i)) (hF : tm_Fr p j0) (h8 : j0 = 8 → post (-2) (L, H, S, E, V, D))
    (h : j0 < 8 → post (nI j0) (L, upd H j0 1, upd S j0 a, upd E j0 b, upd V j0 c, D)) : ∀ d j : Nat, j + d = 8 → j ≤ j0 → wY_bring_31 post a b c L H S E V D (d + 1) (nI j) := by
  intro d
  induction d with
  | zero =>
    intro j hj hle
    have e : j = 8 := by omega
    subst e
    have := hF.1
    exact br_t (by decide) (h8 (by omega))
  | succ d ih =>
    intro j hj hle
    have hn : ¬ (8 : Int32) ≤ nI j := nI_ge (b := 8) (by omega) (by decide)
    have hi : vp_in (nI j) 8 := vp_in_nI (by omega) (by decide)
    have hc : (nI j).toNatClampNeg = j := nI_clamp (by omega)
    refine br_f hn ⟨hi, ?_⟩
    by_cases z : j = j0
    · subst z
      refine br_t (by rw [hc, hth j (by omega), tm_d_f (hF.2.2 (by omega))]; decide) ?_
      exact ⟨hi, nm_r (by rw [hc, tm_v1]) ⟨hi, nm_r (by rw [hc]) ⟨hi, nm_r (by rw [hc]) ⟨hi, nm_r (by rw [hc]) (h (by omega))⟩⟩⟩⟩
    · exact br_f (by rw [hc, hth j (by omega), tm_d_t (hF.2.1 j (by omega))]; decide) (nm_r (nI_1 j) (ih (j + 1) (by omega) (by omega)))
theorem ty_bring {post : Int32 → SY → Prop} {a b c : Int32} {p j0 : Nat} (hth : ∀ i, i < 8 → H i = nI (tm_d p i)) (h0 : ¬ (tm_Sp a b ∧ tm_Wo c) → post (-1) (L, H, S, E, V, D)) (hF : tm_Sp a b ∧ tm_Wo c → tm_Fr p j0)
    (h8 : tm_Sp a b ∧ tm_Wo c → j0 = 8 → post (-2) (L, H, S, E, V, D)) (h : tm_Sp a b ∧ tm_Wo c → j0 < 8 → post (nI j0) (L, upd H j0 1, upd S j0 a, upd E j0 b, upd V j0 c, D)) : wpY_bring post (L, H, S, E, V, D) a b c := by
  refine br_c (fun c1 => h0 (fun z => z.1.1 c1)) (fun c1 => ?_)
  refine br_c (fun c2 => h0 (fun z => z.1.2.1 c2)) (fun c2 => ?_)
  refine br_c (fun c3 => h0 (fun z => z.1.2.2 c3)) (fun c3 => ?_)
  refine br_c (fun c4 => h0 (fun z => z.2.1 c4)) (fun c4 => ?_)
  refine br_c (fun c5 => ?_) (fun c5 => h0 (fun z => c5 (Int32.not_lt.mp z.2.2)))
  have q : tm_Sp a b ∧ tm_Wo c := ⟨⟨c1, c2, c3⟩, ⟨c4, Int32.not_lt.mpr c5⟩⟩
  exact ⟨9, ty_bring_l hth (hF q) (h8 q) (h q) 8 0 rfl (Nat.zero_le _)⟩
end
end
section
/-! what is owed -/
section
variable {H S E V D : Nat → Int32}
theorem ty_chosen {post : Int32 → SY → Prop} {w : Nat → Nat} {p k : Nat} (hp8 : p < 256) (hth : ∀ i, i < 8 → H i = nI (tm_d p i)) (hw : ∀ i, i < 8 → V i = nI (w i)) (hl : ∀ i, w i ≤ 20) (hk : k < 2 ^ 31)
    (hp : ∀ r D', tm_BS (tm_B p S E k) (tm_sc w) 256 r → post r (nI k, H, S, E, V, D')) : wpY_chosen post (nI k, H, S, E, V, D) := by
  unfold wpY_chosen
  dsimp only
  refine ty_work hp8 hth (fun D' hD => ?_)
  dsimp only
  exact ty_best hp8 hth hD hw hl hk (fun r hr => hp r D' hr)
end
theorem i_up {k : Nat} {u : SX} {v : SY} (h : i_Rel k u v) : i_Rel (k + 4) u v := h
theorem i_vc0 (k0 : Int32) : wpX_init (fun u => wpY_init (fun v => i_Rel 1 u v) k0) k0 := by
  refine br_c (fun c1 => br_c (fun c2 => ?_) (fun c2 => ?_)) (fun c1 => ?_)
  · obtain ⟨n, hn, rfl⟩ := nI_of2 (x := k0) (M := 4) (n := 4) (by decide) (Int32.not_lt.mpr c1) c2
    exact br_t c1 (br_t c2 (tm_start hn))
  · exact br_t c1 (br_f c2 (tm_start (n := 4) (by decide)))
  · exact br_f c1 (tm_start (n := 0) (by decide))
theorem i_vc_bring {k : Nat} {u : SX} {v : SY} (I : i_Rel k u v) (hk : k + 4 ≤ 2049) (v1 : Int32) (v2 : Int32) (v3 : Int32) : wpX_bring (fun r u' => wpY_bring (fun r' v' => r' = r ∧ i_Rel (k + 4) u' v') v v1 v2 v3) u v1 v2 v3 := by
  obtain ⟨p, kk, w, S, E, W, H, D, rfl, rfl, ok⟩ := I
  have hp := ok.1
  have hH := ok.2.2.1
  unfold wpX_bring
  dsimp only
  refine tx_span (fun sp => br_f (by decide) ?_) (fun sp => br_t rfl ?_)
  · refine tx_worth (fun wo => br_f (by decide) ?_) (fun wo => br_t rfl ?_)
    · refine tx_free hp (fun j hj => ?_)
      have q : tm_Sp v1 v2 ∧ tm_Wo v3 := ⟨sp, wo⟩
      by_cases z : j = 8
      · subst z
        exact br_t (by decide) (ty_bring (j0 := 8) hH (fun n => absurd q n) (fun _ => hj) (fun _ _ => ⟨rfl, tm_rel D ok⟩) (fun _ n => absurd n (by decide)))
      · have h8 : j < 8 := by
          have := hj.1
          omega
        have hi : vp_in (nI j) 8 := vp_in_nI h8 (by decide)
        have hc : (nI j).toNatClampNeg = j := nI_clamp (by omega)
        obtain ⟨y, hy, rfl⟩ := tm_wo wo
        refine br_f (fun e => z ((nI_eq (a := j) (b := 8) (by omega) (by omega)).mp e)) ?_
        refine ⟨hi, nm_r (by rw [hc]) ⟨hi, nm_r (by rw [hc]) ⟨hi, nm_r (by rw [hc]) (nm_r (tm_or p hp j h8).1 ?_)⟩⟩⟩
        refine ty_bring (j0 := j) hH (fun n => absurd q n) (fun _ => hj) (fun _ n => absurd n z) (fun _ _ => ⟨rfl, ?_⟩)
        exact tm_rel D (tm_ok_in h8 (tm_ok_w (tm_ok_s ok sp) hy))
    · exact ty_bring (j0 := 8) hH (fun _ => ⟨rfl, tm_rel D ok⟩) (fun q => absurd q.2 wo) (fun q => absurd q.2 wo) (fun q => absurd q.2 wo)
  · exact ty_bring (j0 := 8) hH (fun _ => ⟨rfl, tm_rel D ok⟩) (fun q => absurd q.1 sp) (fun q => absurd q.1 sp) (fun q => absurd q.1 sp)
theorem i_vc_take {k : Nat} {u : SX} {v : SY} (I : i_Rel k u v) (hk : k + 4 ≤ 2049) (v1 : Int32) : wpX_take (fun r u' => wpY_take (fun r' v' => r' = r ∧ i_Rel (k + 4) u' v') v v1) u v1 := by
  obtain ⟨p, kk, w, S, E, W, H, D, rfl, rfl, ok⟩ := I
  have hp := ok.1
  have hH := ok.2.2.1
  unfold wpX_take
  dsimp only
  refine tx_pres hp v1 (fun j hj e b => ?_) (fun n => br_t rfl ?_)
  · subst e
    refine br_f (by decide) (nm_r (tm_and p hp j hj).1 ?_)
    unfold wpY_take
    dsimp only
    refine ty_is hH (nI j) (fun i hi e' b' => ?_) (fun n => absurd b (n j hj rfl))
    exact br_f (by decide) ⟨vp_in_nI hj (by decide), nm_r (by rw [nI_clamp (by omega), tm_v0]) ⟨rfl, tm_rel D (tm_ok_out hj ok)⟩⟩
  · unfold wpY_take
    dsimp only
    exact ty_is hH v1 (fun j hj e b => absurd b (n j hj e)) (fun _ => br_t rfl ⟨rfl, tm_rel D ok⟩)
theorem i_vc_revalue {k : Nat} {u : SX} {v : SY} (I : i_Rel k u v) (hk : k + 4 ≤ 2049) (v1 : Int32) (v2 : Int32) : wpX_revalue (fun r u' => wpY_revalue (fun r' v' => r' = r ∧ i_Rel (k + 4) u' v') v v1 v2) u v1 v2 := by
  obtain ⟨p, kk, w, S, E, W, H, D, rfl, rfl, ok⟩ := I
  have hp := ok.1
  have hH := ok.2.2.1
  unfold wpX_revalue
  dsimp only
  refine tx_pres hp v1 (fun j hj e b => br_f (by decide) ?_) (fun n => br_t rfl ?_)
  · subst e
    have hi : vp_in (nI j) 8 := vp_in_nI hj (by decide)
    have hc : (nI j).toNatClampNeg = j := nI_clamp (by omega)
    refine tx_worth (fun wo => br_f (by decide) ?_) (fun wo => br_t rfl ?_)
    · refine ⟨hi, nm_r (by rw [hc]) ?_⟩
      unfold wpY_revalue
      dsimp only
      refine ty_is hH (nI j) (fun i hi' e' b' => br_f (by decide) ?_) (fun n => absurd b (n j hj rfl))
      refine br_f wo.1 (br_t (Int32.not_lt.mp wo.2) ⟨hi, nm_r (by rw [hc]) ⟨rfl, ?_⟩⟩)
      obtain ⟨y, hy, rfl⟩ := tm_wo wo
      exact tm_rel D (tm_ok_w ok hy)
    · unfold wpY_revalue
      dsimp only
      refine ty_is hH (nI j) (fun i hi' e' b' => br_f (by decide) ?_) (fun n => absurd b (n j hj rfl))
      exact br_c (fun _ => ⟨rfl, tm_rel D ok⟩) (fun c1 => br_c (fun c2 => absurd ⟨c1, Int32.not_lt.mpr c2⟩ wo) (fun _ => ⟨rfl, tm_rel D ok⟩))
  · unfold wpY_revalue
    dsimp only
    exact ty_is hH v1 (fun j hj e b => absurd b (n j hj e)) (fun _ => br_t rfl ⟨rfl, tm_rel D ok⟩)
theorem i_vc_setTracks {k : Nat} {u : SX} {v : SY} (I : i_Rel k u v) (hk : k + 4 ≤ 2049) (v1 : Int32) : wpX_setTracks (fun r u' => wpY_setTracks (fun r' v' => r' = r ∧ i_Rel (k + 4) u' v') v v1) u v1 := by
  obtain ⟨p, kk, w, S, E, W, H, D, rfl, rfl, ok⟩ := I
  refine br_c (fun c1 => ?_) (fun c1 => br_c (fun c2 => ?_) (fun c2 => ?_))
  · exact br_t c1 ⟨rfl, tm_rel D ok⟩
  · obtain ⟨n, hn, rfl⟩ := nI_of2 (x := v1) (M := 4) (n := 4) (by decide) c1 c2
    exact br_f c1 (br_t c2 ⟨rfl, tm_rel D ⟨ok.1, hn, ok.2.2⟩⟩)
  · exact br_f c1 (br_f c2 ⟨rfl, tm_rel D ok⟩)
theorem i_vc_tracks {k : Nat} {u : SX} {v : SY} (I : i_Rel k u v) (hk : k + 4 ≤ 2049) : wpX_tracks (fun r => wpY_tracks (fun r' => r' = r ∧ i_Rel (k + 4) u v) v) u := by
  obtain ⟨p, kk, w, S, E, W, H, D, rfl, rfl, ok⟩ := I
  exact ⟨rfl, tm_rel D ok⟩
theorem i_vc_jobs {k : Nat} {u : SX} {v : SY} (I : i_Rel k u v) (hk : k + 4 ≤ 2049) : wpX_jobs (fun r => wpY_jobs (fun r' => r' = r ∧ i_Rel (k + 4) u v) v) u := by
  obtain ⟨p, kk, w, S, E, W, H, D, rfl, rfl, ok⟩ := I
  exact ty_jobs ok.1 ok.2.2.1 ⟨rfl, tm_rel D ok⟩
theorem i_vc_chosen {k : Nat} {u : SX} {v : SY} (I : i_Rel k u v) (hk : k + 4 ≤ 2049) : wpX_chosen (fun r => wpY_chosen (fun r' v' => r' = r ∧ i_Rel (k + 4) u v') v) u := by
  obtain ⟨p, kk, w, S, E, W, H, D, rfl, rfl, ok⟩ := I
  obtain ⟨hp, hkk, hH, hW, hl, hS⟩ := id ok
  unfold wpX_chosen
  dsimp only
  refine tx_bestSet (fun i _ => hW i) hl (by omega) (fun r hr => ?_)
  have h := tm_bs_iff (fun s _ => tm_A00) hr
  exact ty_chosen hp hH (fun i _ => hW i) hl (by omega) (fun r' D' hr' => ⟨tm_bs_one (fun a b ha hb => tm_sc_inj ha hb) h hr', tm_rel D' ok⟩)
theorem i_vc_total {k : Nat} {u : SX} {v : SY} (I : i_Rel k u v) (hk : k + 4 ≤ 2049) : wpX_total (fun r => wpY_total (fun r' v' => r' = r ∧ i_Rel (k + 4) u v') v) u := by
  obtain ⟨p, kk, w, S, E, W, H, D, rfl, rfl, ok⟩ := I
  obtain ⟨hp, hkk, hH, hW, hl, hS⟩ := id ok
  unfold wpX_total
  dsimp only
  refine tx_bestWorth (fun i _ => hW i) hl (by omega) (fun r hr => ?_)
  have h := tm_mx_iff (fun s _ => tm_A00) hr
  unfold wpY_total
  dsimp only
  refine ty_chosen hp hH (fun i _ => hW i) hl (by omega) (fun r' D' hr' => ?_)
  obtain ⟨c, hc, rfl, mx⟩ := tm_bs_mx hr'
  dsimp only
  exact ty_sum (fun i _ => hW i) hc ⟨tm_mx_one h mx, tm_rel D' ok⟩
theorem i_vc_fits {k : Nat} {u : SX} {v : SY} (I : i_Rel k u v) (hk : k + 4 ≤ 2049) (v1 : Int32) : wpX_fits (fun r => wpY_fits (fun r' v' => r' = r ∧ i_Rel (k + 4) u v') v v1) u v1 := by
  obtain ⟨p, kk, w, S, E, W, H, D, rfl, rfl, ok⟩ := I
  obtain ⟨hp, hkk, hH, hW, hl, hS⟩ := id ok
  by_cases c : (v1 &&& (nI p ^^^ (-1))) = 0
  · obtain ⟨s, hs, rfl⟩ := tm_sub_lt hp c
    have lm := tm_most_le S E s 16
    have e255 := tm_255 s hs
    have hx : (nI s).toNatClampNeg = s := nI_clamp (by omega)
    refine br_t c (tx_most hs ?_)
    by_cases q : kk < tm_most S E s 16
    · refine br_t (nI_lt q (by omega)) ?_
      unfold wpY_fits
      dsimp only
      refine ty_work hp hH (fun D' hD => ?_)
      refine ty_jobs hp hH (br_t c ?_)
      dsimp only
      rw [e255, hx, hD s hs c]
      exact ⟨vp_in_nI hs (by decide), br_t (nI_lt q (by omega)) ⟨rfl, tm_rel D' ok⟩⟩
    · refine br_f (nI_nlt (by omega) (by omega)) ?_
      unfold wpY_fits
      dsimp only
      refine ty_work hp hH (fun D' hD => ?_)
      refine ty_jobs hp hH (br_t c ?_)
      dsimp only
      rw [e255, hx, hD s hs c]
      exact ⟨vp_in_nI hs (by decide), br_f (nI_nlt (by omega) (by omega)) ⟨rfl, tm_rel D' ok⟩⟩
  · refine br_f c ?_
    unfold wpY_fits
    dsimp only
    refine ty_work hp hH (fun D' hD => ?_)
    exact ty_jobs hp hH (br_f c ⟨rfl, tm_rel D' ok⟩)
theorem i_vc_tracksFor {k : Nat} {u : SX} {v : SY} (I : i_Rel k u v) (hk : k + 4 ≤ 2049) (v1 : Int32) : wpX_tracksFor (fun r => wpY_tracksFor (fun r' v' => r' = r ∧ i_Rel (k + 4) u v') v v1) u v1 := by
  obtain ⟨p, kk, w, S, E, W, H, D, rfl, rfl, ok⟩ := I
  obtain ⟨hp, hkk, hH, hW, hl, hS⟩ := id ok
  obtain ⟨s, hs, e⟩ := tm_lt v1 hp
  have hx : (nI s).toNatClampNeg = s := nI_clamp (by omega)
  have sub : (nI s &&& (nI p ^^^ (-1))) = 0 := by
    rw [← e]
    exact tm_sub_and v1 (nI p)
  unfold wpX_tracksFor
  dsimp only
  rw [e]
  refine tx_most hs ?_
  unfold wpY_tracksFor
  dsimp only
  refine ty_work hp hH (fun D' hD => ?_)
  refine ty_jobs hp hH ?_
  dsimp only
  rw [e, hx, hD s hs sub]
  exact ⟨vp_in_nI hs (by decide), rfl, tm_rel D' ok⟩
theorem i_vc_price {k : Nat} {u : SX} {v : SY} (I : i_Rel k u v) (hk : k + 4 ≤ 2049) (v1 : Int32) : wpX_price (fun r => wpY_price (fun r' v' => r' = r ∧ i_Rel (k + 4) u v') v v1) u v1 := by
  obtain ⟨p, kk, w, S, E, W, H, D, rfl, rfl, ok⟩ := I
  obtain ⟨hp, hkk, hH, hW, hl, hS⟩ := id ok
  by_cases c : ∃ j, j < 8 ∧ v1 = nI j ∧ p.testBit j = true
  · obtain ⟨j, hj, rfl, b⟩ := c
    refine tx_price hp hW hl (by omega) hj b (fun C m pr hm => ?_)
    exact ty_price hp hH hW hl (by omega) hj b pr (fun m' D' hm' => ⟨congrArg nI (tm_lst_one hm hm'), tm_rel D' ok⟩)
  · unfold wpX_price
    dsimp only
    refine tx_pres hp v1 (fun j hj e b => absurd ⟨j, hj, e, b⟩ c) (fun n => br_t rfl ?_)
    unfold wpY_price
    dsimp only
    exact ty_is hH v1 (fun j hj e b => absurd ⟨j, hj, e, b⟩ c) (fun _ => br_t rfl ⟨rfl, tm_rel D ok⟩)
theorem i_vc_totalWith {k : Nat} {u : SX} {v : SY} (I : i_Rel k u v) (hk : k + 4 ≤ 2049) (v1 : Int32) (v2 : Int32) : wpX_totalWith (fun r => wpY_totalWith (fun r' v' => r' = r ∧ i_Rel (k + 4) u v') v v1 v2) u v1 v2 := by
  obtain ⟨p, kk, w, S, E, W, H, D, rfl, rfl, ok⟩ := I
  obtain ⟨hp, hkk, hH, hW, hl, hS⟩ := id ok
  unfold wpX_totalWith
  dsimp only
  refine tx_bestWorth (fun i _ => hW i) hl (by omega) (fun r hr => ?_)
  exact ty_totalWith hp hH (fun i _ => hW i) hl (by omega) (fun r' D' hr' => ⟨tm_mx_one hr hr', tm_rel D' ok⟩)
theorem i_vc_gain {k : Nat} {u : SX} {v : SY} (I : i_Rel k u v) (hk : k + 4 ≤ 2049) : wpX_gain (fun r => wpY_gain (fun r' v' => r' = r ∧ i_Rel (k + 4) u v') v) u := by
  obtain ⟨p, kk, w, S, E, W, H, D, rfl, rfl, ok⟩ := I
  obtain ⟨hp, hkk, hH, hW, hl, hS⟩ := id ok
  have hw : ∀ i, i < 8 → W i = nI (w i) := fun i _ => hW i
  unfold wpX_gain
  dsimp only
  rw [nI_1 kk]
  refine tx_bestWorth hw hl (by omega) (fun r1 h1 => ?_)
  refine tx_bestWorth hw hl (by omega) (fun r2 h2 => ?_)
  have g1 := tm_mx_iff (fun s _ => tm_A00) h1
  have g2 := tm_mx_iff (fun s _ => tm_A00) h2
  unfold wpY_gain
  dsimp only
  refine ty_work hp hH (fun D' hD => ?_)
  dsimp only
  rw [nI_1 kk]
  refine ty_best hp hH hD hw hl (by omega) (fun r hr => ?_)
  refine ty_best hp hH hD hw hl (by omega) (fun r' hr' => ?_)
  obtain ⟨c, hc, rfl, m1⟩ := tm_bs_mx hr
  obtain ⟨c', hc', rfl, m2⟩ := tm_bs_mx hr'
  refine ty_sum hw hc' ?_
  refine ty_sum hw hc ?_
  exact ⟨by rw [tm_mx_one g1 m2, tm_mx_one g2 m1], tm_rel D' ok⟩
theorem i_vc_loss {k : Nat} {u : SX} {v : SY} (I : i_Rel k u v) (hk : k + 4 ≤ 2049) : wpX_loss (fun r => wpY_loss (fun r' v' => r' = r ∧ i_Rel (k + 4) u v') v) u := by
  obtain ⟨p, kk, w, S, E, W, H, D, rfl, rfl, ok⟩ := I
  obtain ⟨hp, hkk, hH, hW, hl, hS⟩ := id ok
  have hw : ∀ i, i < 8 → W i = nI (w i) := fun i _ => hW i
  cases kk with
  | zero => exact br_t rfl (br_t rfl ⟨rfl, tm_rel D ok⟩)
  | succ m =>
    have hne : ¬ nI (m + 1) = 0 := nI_ne0 (by omega) (by omega)
    unfold wpX_loss
    dsimp only
    rw [nI_pred m]
    refine br_f hne ?_
    refine tx_bestWorth hw hl (by omega) (fun r1 h1 => ?_)
    refine tx_bestWorth hw hl (by omega) (fun r2 h2 => ?_)
    have g1 := tm_mx_iff (fun s _ => tm_A00) h1
    have g2 := tm_mx_iff (fun s _ => tm_A00) h2
    unfold wpY_loss
    dsimp only
    refine br_f hne ?_
    refine ty_work hp hH (fun D' hD => ?_)
    dsimp only
    rw [nI_pred m]
    refine ty_best hp hH hD hw hl (by omega) (fun r hr => ?_)
    refine ty_best hp hH hD hw hl (by omega) (fun r' hr' => ?_)
    obtain ⟨c, hc, rfl, m1⟩ := tm_bs_mx hr
    obtain ⟨c', hc', rfl, m2⟩ := tm_bs_mx hr'
    refine ty_sum hw hc ?_
    refine ty_sum hw hc' ?_
    exact ⟨by rw [tm_mx_one g1 m1, tm_mx_one g2 m2], tm_rel D' ok⟩
theorem i_vc_busy {k : Nat} {u : SX} {v : SY} (I : i_Rel k u v) (hk : k + 4 ≤ 2049) (v1 : Int32) : wpX_busy (fun r => wpY_busy (fun r' v' => r' = r ∧ i_Rel (k + 4) u v') v v1) u v1 := by
  obtain ⟨p, kk, w, S, E, W, H, D, rfl, rfl, ok⟩ := I
  obtain ⟨hp, hkk, hH, hW, hl, hS⟩ := id ok
  have hw : ∀ i, i < 8 → W i = nI (w i) := fun i _ => hW i
  unfold wpX_busy
  dsimp only
  unfold wpX_chosen
  dsimp only
  refine tx_bestSet hw hl (by omega) (fun r hr => ?_)
  have h := tm_bs_iff (fun s _ => tm_A00) hr
  obtain ⟨c, hc, rfl, _⟩ := tm_bs_mx h
  refine tx_countAt hc v1 ?_
  unfold wpY_busy
  dsimp only
  refine ty_chosen hp hH hw hl (by omega) (fun r' D' hr' => ?_)
  have e := tm_bs_one (fun a b ha hb => tm_sc_inj ha hb) h hr'
  subst e
  dsimp only
  refine br_c (fun c1 => ⟨?_, tm_rel D' ok⟩) (fun c1 => br_c (fun c2 => ty_at hc v1 ⟨rfl, tm_rel D' ok⟩) (fun c2 => ⟨?_, tm_rel D' ok⟩))
  · rw [tm_cnt_0 8 (fun i hi z => Int32.not_le.mpr (Int32.lt_of_lt_of_le c1 (hS i).1) z.1)]
    rfl
  · rw [tm_cnt_0 8 (fun i hi z => ?_)]
    · rfl
    · have a : v1 < 16 := Int32.lt_of_lt_of_le z.2 (hS i).2
      rw [Int32.lt_iff_toInt_lt, show (16 : Int32).toInt = 16 from by decide] at a
      rw [Int32.le_iff_toInt_le, show (15 : Int32).toInt = 15 from by decide] at c2
      omega
end
