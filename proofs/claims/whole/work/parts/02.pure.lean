/-! the pure picture: sets are naturals below 256, a bit a job -/
def tm_d (s j : Nat) : Nat := if s.testBit j = true then 1 else 0
theorem tm_d1 (s j : Nat) : tm_d s j ≤ 1 := by unfold tm_d; split <;> omega
theorem tm_d_t {s j : Nat} (h : s.testBit j = true) : tm_d s j = 1 := if_pos h
theorem tm_d_f {s j : Nat} (h : ¬ s.testBit j = true) : tm_d s j = 0 := if_neg h
theorem tm_d_eq1 {s j : Nat} : tm_d s j = 1 ↔ s.testBit j = true := by
  unfold tm_d; split
  · next h => exact ⟨fun _ => h, fun _ => rfl⟩
  · next h => exact ⟨fun z => absurd z (by decide), fun z => absurd z h⟩
theorem tm_d_bit {a b j : Nat} (h : tm_d a j = tm_d b j) : a.testBit j = b.testBit j := by
  by_cases x : a.testBit j = true
  · rw [x, tm_d_eq1.mp (h ▸ tm_d_t x)]
  · by_cases y : b.testBit j = true
    · exact absurd (tm_d_eq1.mp (h.trans (tm_d_t y))) x
    · cases hx : a.testBit j with
      | true => exact absurd hx x
      | false =>
        cases hy : b.testBit j with
        | true => exact absurd hy y
        | false => rfl
def tm_key (s : Nat) : Nat := 128 * tm_d s 0 + 64 * tm_d s 1 + 32 * tm_d s 2 + 16 * tm_d s 3 + 8 * tm_d s 4 + 4 * tm_d s 5 + 2 * tm_d s 6 + tm_d s 7
theorem tm_key_lt (a : Nat) : tm_key a < 256 := by
  have a0 := tm_d1 a 0
  have a1 := tm_d1 a 1
  have a2 := tm_d1 a 2
  have a3 := tm_d1 a 3
  have a4 := tm_d1 a 4
  have a5 := tm_d1 a 5
  have a6 := tm_d1 a 6
  have a7 := tm_d1 a 7
  unfold tm_key; omega
theorem tm_kl0 {a b : Nat} (e : ∀ i, i < 0 → tm_d a i = tm_d b i) (n : tm_d a 0 ≠ tm_d b 0) : tm_key b < tm_key a ↔ tm_d a 0 = 1 := by
  have a0 := tm_d1 a 0
  have a1 := tm_d1 a 1
  have a2 := tm_d1 a 2
  have a3 := tm_d1 a 3
  have a4 := tm_d1 a 4
  have a5 := tm_d1 a 5
  have a6 := tm_d1 a 6
  have a7 := tm_d1 a 7
  have b0 := tm_d1 b 0
  have b1 := tm_d1 b 1
  have b2 := tm_d1 b 2
  have b3 := tm_d1 b 3
  have b4 := tm_d1 b 4
  have b5 := tm_d1 b 5
  have b6 := tm_d1 b 6
  have b7 := tm_d1 b 7
  unfold tm_key; omega
theorem tm_kl1 {a b : Nat} (e : ∀ i, i < 1 → tm_d a i = tm_d b i) (n : tm_d a 1 ≠ tm_d b 1) : tm_key b < tm_key a ↔ tm_d a 1 = 1 := by
  have e0 := e 0 (by decide)
  have a1 := tm_d1 a 1
  have a2 := tm_d1 a 2
  have a3 := tm_d1 a 3
  have a4 := tm_d1 a 4
  have a5 := tm_d1 a 5
  have a6 := tm_d1 a 6
  have a7 := tm_d1 a 7
  have b1 := tm_d1 b 1
  have b2 := tm_d1 b 2
  have b3 := tm_d1 b 3
  have b4 := tm_d1 b 4
  have b5 := tm_d1 b 5
  have b6 := tm_d1 b 6
  have b7 := tm_d1 b 7
  unfold tm_key; omega
theorem tm_kl2 {a b : Nat} (e : ∀ i, i < 2 → tm_d a i = tm_d b i) (n : tm_d a 2 ≠ tm_d b 2) : tm_key b < tm_key a ↔ tm_d a 2 = 1 := by
  have e0 := e 0 (by decide)
  have e1 := e 1 (by decide)
  have a2 := tm_d1 a 2
  have a3 := tm_d1 a 3
  have a4 := tm_d1 a 4
  have a5 := tm_d1 a 5
  have a6 := tm_d1 a 6
  have a7 := tm_d1 a 7
  have b2 := tm_d1 b 2
  have b3 := tm_d1 b 3
  have b4 := tm_d1 b 4
  have b5 := tm_d1 b 5
  have b6 := tm_d1 b 6
  have b7 := tm_d1 b 7
  unfold tm_key; omega
theorem tm_kl3 {a b : Nat} (e : ∀ i, i < 3 → tm_d a i = tm_d b i) (n : tm_d a 3 ≠ tm_d b 3) : tm_key b < tm_key a ↔ tm_d a 3 = 1 := by
  have e0 := e 0 (by decide)
  have e1 := e 1 (by decide)
  have e2 := e 2 (by decide)
  have a3 := tm_d1 a 3
  have a4 := tm_d1 a 4
  have a5 := tm_d1 a 5
  have a6 := tm_d1 a 6
  have a7 := tm_d1 a 7
  have b3 := tm_d1 b 3
  have b4 := tm_d1 b 4
  have b5 := tm_d1 b 5
  have b6 := tm_d1 b 6
  have b7 := tm_d1 b 7
  unfold tm_key; omega
theorem tm_kl4 {a b : Nat} (e : ∀ i, i < 4 → tm_d a i = tm_d b i) (n : tm_d a 4 ≠ tm_d b 4) : tm_key b < tm_key a ↔ tm_d a 4 = 1 := by
  have e0 := e 0 (by decide)
  have e1 := e 1 (by decide)
  have e2 := e 2 (by decide)
  have e3 := e 3 (by decide)
  have a4 := tm_d1 a 4
  have a5 := tm_d1 a 5
  have a6 := tm_d1 a 6
  have a7 := tm_d1 a 7
  have b4 := tm_d1 b 4
  have b5 := tm_d1 b 5
  have b6 := tm_d1 b 6
  have b7 := tm_d1 b 7
  unfold tm_key; omega
theorem tm_kl5 {a b : Nat} (e : ∀ i, i < 5 → tm_d a i = tm_d b i) (n : tm_d a 5 ≠ tm_d b 5) : tm_key b < tm_key a ↔ tm_d a 5 = 1 := by
  have e0 := e 0 (by decide)
  have e1 := e 1 (by decide)
  have e2 := e 2 (by decide)
  have e3 := e 3 (by decide)
  have e4 := e 4 (by decide)
  have a5 := tm_d1 a 5
  have a6 := tm_d1 a 6
  have a7 := tm_d1 a 7
  have b5 := tm_d1 b 5
  have b6 := tm_d1 b 6
  have b7 := tm_d1 b 7
  unfold tm_key; omega
theorem tm_kl6 {a b : Nat} (e : ∀ i, i < 6 → tm_d a i = tm_d b i) (n : tm_d a 6 ≠ tm_d b 6) : tm_key b < tm_key a ↔ tm_d a 6 = 1 := by
  have e0 := e 0 (by decide)
  have e1 := e 1 (by decide)
  have e2 := e 2 (by decide)
  have e3 := e 3 (by decide)
  have e4 := e 4 (by decide)
  have e5 := e 5 (by decide)
  have a6 := tm_d1 a 6
  have a7 := tm_d1 a 7
  have b6 := tm_d1 b 6
  have b7 := tm_d1 b 7
  unfold tm_key; omega
theorem tm_kl7 {a b : Nat} (e : ∀ i, i < 7 → tm_d a i = tm_d b i) (n : tm_d a 7 ≠ tm_d b 7) : tm_key b < tm_key a ↔ tm_d a 7 = 1 := by
  have e0 := e 0 (by decide)
  have e1 := e 1 (by decide)
  have e2 := e 2 (by decide)
  have e3 := e 3 (by decide)
  have e4 := e 4 (by decide)
  have e5 := e 5 (by decide)
  have e6 := e 6 (by decide)
  have a7 := tm_d1 a 7
  have b7 := tm_d1 b 7
  unfold tm_key; omega
theorem tm_kl {a b j : Nat} (hj : j < 8) (e : ∀ i, i < j → tm_d a i = tm_d b i) (n : tm_d a j ≠ tm_d b j) : tm_key b < tm_key a ↔ tm_d a j = 1 := by
  have h : j = 0 ∨ j = 1 ∨ j = 2 ∨ j = 3 ∨ j = 4 ∨ j = 5 ∨ j = 6 ∨ j = 7 := by omega
  rcases h with rfl | rfl | rfl | rfl | rfl | rfl | rfl | rfl
  · exact tm_kl0 e n
  · exact tm_kl1 e n
  · exact tm_kl2 e n
  · exact tm_kl3 e n
  · exact tm_kl4 e n
  · exact tm_kl5 e n
  · exact tm_kl6 e n
  · exact tm_kl7 e n
theorem tm_keq {a b : Nat} (e : ∀ i, i < 8 → tm_d a i = tm_d b i) : tm_key a = tm_key b := by
  have e0 := e 0 (by decide)
  have e1 := e 1 (by decide)
  have e2 := e 2 (by decide)
  have e3 := e 3 (by decide)
  have e4 := e 4 (by decide)
  have e5 := e 5 (by decide)
  have e6 := e 6 (by decide)
  have e7 := e 7 (by decide)
  unfold tm_key; omega
theorem tm_kdig {a b : Nat} (h : tm_key a = tm_key b) : ∀ i, i < 8 → tm_d a i = tm_d b i := by
  have a0 := tm_d1 a 0
  have a1 := tm_d1 a 1
  have a2 := tm_d1 a 2
  have a3 := tm_d1 a 3
  have a4 := tm_d1 a 4
  have a5 := tm_d1 a 5
  have a6 := tm_d1 a 6
  have a7 := tm_d1 a 7
  have b0 := tm_d1 b 0
  have b1 := tm_d1 b 1
  have b2 := tm_d1 b 2
  have b3 := tm_d1 b 3
  have b4 := tm_d1 b 4
  have b5 := tm_d1 b 5
  have b6 := tm_d1 b 6
  have b7 := tm_d1 b 7
  unfold tm_key at h
  intro i hi
  have z : i = 0 ∨ i = 1 ∨ i = 2 ∨ i = 3 ∨ i = 4 ∨ i = 5 ∨ i = 6 ∨ i = 7 := by omega
  rcases z with rfl | rfl | rfl | rfl | rfl | rfl | rfl | rfl <;> omega
theorem tm_bits {a b : Nat} (ha : a < 256) (hb : b < 256) (h : ∀ i, i < 8 → a.testBit i = b.testBit i) : a = b := by
  apply Nat.eq_of_testBit_eq
  intro i
  rcases Nat.lt_or_ge i 8 with z | z
  · exact h i z
  · have hp : 2 ^ 8 ≤ 2 ^ i := Nat.pow_le_pow_right (by decide) z
    rw [Nat.testBit_lt_two_pow (show a < 2 ^ i by omega), Nat.testBit_lt_two_pow (show b < 2 ^ i by omega)]
theorem tm_kinj {a b : Nat} (ha : a < 256) (hb : b < 256) (h : tm_key a = tm_key b) : a = b :=
  tm_bits ha hb (fun i hi => tm_d_bit (tm_kdig h i hi))
/-! counts, loads, sums -/
def tm_cnt (S E : Nat → Int32) (s : Nat) (t : Int32) : Nat → Nat
  | 0 => 0
  | j + 1 => tm_cnt S E s t j + (if s.testBit j = true ∧ S j ≤ t ∧ t < E j then 1 else 0)
theorem tm_cnt_le (S E : Nat → Int32) (s : Nat) (t : Int32) (j : Nat) : tm_cnt S E s t j ≤ j := by
  induction j with
  | zero => exact Nat.le_refl 0
  | succ j ih => unfold tm_cnt; split <;> omega
theorem tm_cnt_y {S E : Nat → Int32} {s : Nat} {t : Int32} {j : Nat} (h : s.testBit j = true ∧ S j ≤ t ∧ t < E j) : tm_cnt S E s t (j + 1) = tm_cnt S E s t j + 1 := by
  rw [tm_cnt, if_pos h]
theorem tm_cnt_n {S E : Nat → Int32} {s : Nat} {t : Int32} {j : Nat} (h : ¬ (s.testBit j = true ∧ S j ≤ t ∧ t < E j)) : tm_cnt S E s t (j + 1) = tm_cnt S E s t j := by
  rw [tm_cnt, if_neg h]; rfl
theorem tm_cnt_0 {S E : Nat → Int32} {s : Nat} {t : Int32} (j : Nat) (h : ∀ i, i < j → ¬ (S i ≤ t ∧ t < E i)) : tm_cnt S E s t j = 0 := by
  induction j with
  | zero => rfl
  | succ j ih => rw [tm_cnt_n (fun z => h j (by omega) z.2), ih (fun i hi => h i (by omega))]
theorem tm_cnt_e {S E : Nat → Int32} {t : Int32} (j : Nat) : tm_cnt S E 0 t j = 0 := by
  induction j with
  | zero => rfl
  | succ j ih => rw [tm_cnt_n (fun z => absurd z.1 (by rw [Nat.zero_testBit]; decide)), ih]
def tm_most (S E : Nat → Int32) (s : Nat) : Nat → Nat
  | 0 => 0
  | t + 1 => if tm_most S E s t < tm_cnt S E s (nI t) 8 then tm_cnt S E s (nI t) 8 else tm_most S E s t
theorem tm_most_le (S E : Nat → Int32) (s : Nat) (t : Nat) : tm_most S E s t ≤ 8 := by
  induction t with
  | zero => exact Nat.zero_le 8
  | succ t ih =>
    unfold tm_most
    have := tm_cnt_le S E s (nI t) 8
    split <;> omega
theorem tm_most_y {S E : Nat → Int32} {s t : Nat} (h : tm_most S E s t < tm_cnt S E s (nI t) 8) : tm_most S E s (t + 1) = tm_cnt S E s (nI t) 8 := by
  rw [tm_most, if_pos h]
theorem tm_most_n {S E : Nat → Int32} {s t : Nat} (h : ¬ tm_most S E s t < tm_cnt S E s (nI t) 8) : tm_most S E s (t + 1) = tm_most S E s t := by
  rw [tm_most, if_neg h]
theorem tm_most_e {S E : Nat → Int32} (t : Nat) : tm_most S E 0 t = 0 := by
  induction t with
  | zero => rfl
  | succ t ih => rw [tm_most_n (by rw [tm_cnt_e]; omega), ih]
def tm_sum (w : Nat → Nat) (s : Nat) : Nat → Nat
  | 0 => 0
  | j + 1 => tm_sum w s j + (if s.testBit j = true then w j else 0)
theorem tm_sum_y {w : Nat → Nat} {s j : Nat} (h : s.testBit j = true) : tm_sum w s (j + 1) = tm_sum w s j + w j := by
  rw [tm_sum, if_pos h]
theorem tm_sum_n {w : Nat → Nat} {s j : Nat} (h : ¬ s.testBit j = true) : tm_sum w s (j + 1) = tm_sum w s j := by
  rw [tm_sum, if_neg h]; rfl
theorem tm_sum_le {w : Nat → Nat} (hw : ∀ i, w i ≤ 20) (s j : Nat) : tm_sum w s j ≤ 20 * j := by
  induction j with
  | zero => exact Nat.le_refl 0
  | succ j ih => have := hw j; unfold tm_sum; split <;> omega
/-- the worths with v at j -/
def tm_put (w : Nat → Nat) (j v : Nat) : Nat → Nat := fun i => if i = j then v else w i
theorem tm_put_s {w : Nat → Nat} {j v : Nat} : tm_put w j v j = v := if_pos rfl
theorem tm_put_n {w : Nat → Nat} {j v i : Nat} (h : i ≠ j) : tm_put w j v i = w i := if_neg h
theorem tm_put_lo {w : Nat → Nat} {s j v : Nat} (n : Nat) (h : n ≤ j) : tm_sum (tm_put w j v) s n = tm_sum w s n := by
  induction n with
  | zero => rfl
  | succ n ih =>
    have e := ih (by omega)
    by_cases b : s.testBit n = true
    · rw [tm_sum_y b, tm_sum_y b, e, tm_put_n (by omega)]
    · rw [tm_sum_n b, tm_sum_n b, e]
theorem tm_put_no {w : Nat → Nat} {s j v : Nat} (hb : ¬ s.testBit j = true) (n : Nat) : tm_sum (tm_put w j v) s n = tm_sum w s n := by
  induction n with
  | zero => rfl
  | succ n ih =>
    by_cases b : s.testBit n = true
    · rw [tm_sum_y b, tm_sum_y b, ih, tm_put_n (show n ≠ j from fun z => hb (by rw [← z]; exact b))]
    · rw [tm_sum_n b, tm_sum_n b, ih]
theorem tm_put_ya {w : Nat → Nat} {s j v : Nat} (hb : s.testBit j = true) (d : Nat) : tm_sum (tm_put w j v) s (j + 1 + d) + w j = tm_sum w s (j + 1 + d) + v := by
  induction d with
  | zero =>
    show tm_sum (tm_put w j v) s (j + 1) + w j = tm_sum w s (j + 1) + v
    rw [tm_sum_y hb, tm_sum_y hb, tm_put_s, tm_put_lo j (Nat.le_refl j)]; omega
  | succ d ih =>
    show tm_sum (tm_put w j v) s (j + 1 + d + 1) + w j = tm_sum w s (j + 1 + d + 1) + v
    by_cases b : s.testBit (j + 1 + d) = true
    · rw [tm_sum_y b, tm_sum_y b, tm_put_n (by omega)]; omega
    · rw [tm_sum_n b, tm_sum_n b]; exact ih
theorem tm_put_yes {w : Nat → Nat} {s j v : Nat} (hj : j < 8) (hb : s.testBit j = true) : tm_sum (tm_put w j v) s 8 + w j = tm_sum w s 8 + v := by
  have h := tm_put_ya (w := w) (v := v) hb (8 - (j + 1))
  have e : j + 1 + (8 - (j + 1)) = 8 := by omega
  rw [e] at h; exact h
/-! the order: worth first, then the least difference -/
def tm_sc (w : Nat → Nat) (s : Nat) : Nat := 256 * tm_sum w s 8 + tm_key s
theorem tm_sc_inj {w : Nat → Nat} {a b : Nat} (ha : a < 256) (hb : b < 256) (h : tm_sc w a = tm_sc w b) : a = b := by
  have x := tm_key_lt a
  have y := tm_key_lt b
  unfold tm_sc at h
  exact tm_kinj ha hb (by omega)
theorem tm_sc_lt {w : Nat → Nat} {a b : Nat} : tm_sc w b < tm_sc w a ↔ (tm_sum w b 8 < tm_sum w a 8 ∨ (tm_sum w a 8 = tm_sum w b 8 ∧ tm_key b < tm_key a)) := by
  have x := tm_key_lt a
  have y := tm_key_lt b
  unfold tm_sc
  omega
theorem tm_sc_le {w : Nat → Nat} {a b : Nat} (h : tm_sc w a ≤ tm_sc w b) : tm_sum w a 8 ≤ tm_sum w b 8 := by
  have x := tm_key_lt a
  have y := tm_key_lt b
  unfold tm_sc at h
  omega
/-! the best of a family of sets: -1 when there is none -/
def tm_BS (A : Nat → Prop) (f : Nat → Nat) (n : Nat) (r : Int32) : Prop :=
  (r = -1 ∧ ∀ s, s < n → ¬ A s) ∨ (∃ c, c < n ∧ r = nI c ∧ A c ∧ ∀ s, s < n → A s → f s ≤ f c)
theorem tm_neg {c : Nat} (h : c < 2 ^ 31) : ¬ nI c = -1 := by
  intro e
  have z := nI_pos h
  rw [e] at z
  exact z (by decide)
theorem tm_bs0 (A : Nat → Prop) (f : Nat → Nat) : tm_BS A f 0 (-1) := Or.inl ⟨rfl, fun _ h => absurd h (Nat.not_lt_zero _)⟩
theorem tm_bs_no {A : Nat → Prop} {f : Nat → Nat} {n : Nat} {r : Int32} (h : tm_BS A f n r) (hn : ¬ A n) : tm_BS A f (n + 1) r := by
  rcases h with ⟨e, h⟩ | ⟨c, hc, e, ha, h⟩
  · refine Or.inl ⟨e, fun s hs a => ?_⟩
    rcases Nat.lt_or_ge s n with z | z
    · exact h s z a
    · exact hn ((show s = n by omega) ▸ a)
  · refine Or.inr ⟨c, by omega, e, ha, fun s hs a => ?_⟩
    rcases Nat.lt_or_ge s n with z | z
    · exact h s z a
    · exact absurd ((show s = n by omega) ▸ a) hn
theorem tm_bs_first {A : Nat → Prop} {f : Nat → Nat} {n : Nat} {r : Int32} (hl : n < 2 ^ 31) (h : tm_BS A f n r) (hr : r = -1) (ha : A n) : tm_BS A f (n + 1) (nI n) := by
  rcases h with ⟨_, h⟩ | ⟨c, hc, e, _, _⟩
  · refine Or.inr ⟨n, by omega, rfl, ha, fun s hs a => ?_⟩
    rcases Nat.lt_or_ge s n with z | z
    · exact absurd a (h s z)
    · rw [show s = n by omega]; exact Nat.le_refl _
  · exact absurd (e.symm.trans hr) (tm_neg (by omega))
theorem tm_bs_some {A : Nat → Prop} {f : Nat → Nat} {n : Nat} {r : Int32} (h : tm_BS A f n r) (hr : ¬ r = -1) : ∃ c, c < n ∧ r = nI c ∧ A c ∧ ∀ s, s < n → A s → f s ≤ f c := by
  rcases h with ⟨e, _⟩ | h
  · exact absurd e hr
  · exact h
theorem tm_bs_new {A : Nat → Prop} {f : Nat → Nat} {n c : Nat} (h : ∀ s, s < n → A s → f s ≤ f c) (ha : A n) (hf : f c < f n) : tm_BS A f (n + 1) (nI n) := by
  refine Or.inr ⟨n, by omega, rfl, ha, fun s hs a => ?_⟩
  rcases Nat.lt_or_ge s n with z | z
  · exact Nat.le_of_lt (Nat.lt_of_le_of_lt (h s z a) hf)
  · rw [show s = n by omega]; exact Nat.le_refl _
theorem tm_bs_old {A : Nat → Prop} {f : Nat → Nat} {n c : Nat} (hc : c < n) (hA : A c) (h : ∀ s, s < n → A s → f s ≤ f c) (hf : ¬ f c < f n) : tm_BS A f (n + 1) (nI c) := by
  refine Or.inr ⟨c, by omega, rfl, hA, fun s hs a => ?_⟩
  rcases Nat.lt_or_ge s n with z | z
  · exact h s z a
  · rw [show s = n by omega]; exact Nat.le_of_not_lt hf
theorem tm_bs_one {A : Nat → Prop} {f : Nat → Nat} {r r' : Int32} (hi : ∀ a b, a < 256 → b < 256 → f a = f b → a = b) (h : tm_BS A f 256 r) (h' : tm_BS A f 256 r') : r' = r := by
  rcases h with ⟨e, h⟩ | ⟨c, hc, e, ha, h⟩
  · rcases h' with ⟨e', _⟩ | ⟨c', hc', _, ha', _⟩
    · rw [e, e']
    · exact absurd ha' (h c' hc')
  · rcases h' with ⟨_, h'⟩ | ⟨c', hc', e', ha', h'⟩
    · exact absurd ha (h' c hc)
    · rw [e, e', hi c' c hc' hc (Nat.le_antisymm (h c' hc' ha') (h' c hc ha))]
theorem tm_bs_iff {A B : Nat → Prop} {f : Nat → Nat} {n : Nat} {r : Int32} (e : ∀ s, s < n → (A s ↔ B s)) (h : tm_BS A f n r) : tm_BS B f n r := by
  rcases h with ⟨z, h⟩ | ⟨c, hc, z, ha, h⟩
  · exact Or.inl ⟨z, fun s hs b => h s hs ((e s hs).mpr b)⟩
  · exact Or.inr ⟨c, hc, z, (e c hc).mp ha, fun s hs b => h s hs ((e s hs).mpr b)⟩
/-! the greatest sum of a family: -1 when there is none -/
def tm_MX (A : Nat → Prop) (f : Nat → Nat) (n : Nat) (r : Int32) : Prop :=
  (r = -1 ∧ ∀ s, s < n → ¬ A s) ∨ (∃ c, c < n ∧ r = nI (f c) ∧ A c ∧ ∀ s, s < n → A s → f s ≤ f c)
theorem tm_mx0 (A : Nat → Prop) (f : Nat → Nat) : tm_MX A f 0 (-1) := Or.inl ⟨rfl, fun _ h => absurd h (Nat.not_lt_zero _)⟩
theorem tm_mx_no {A : Nat → Prop} {f : Nat → Nat} {n : Nat} {r : Int32} (h : tm_MX A f n r) (hn : ¬ A n) : tm_MX A f (n + 1) r := by
  rcases h with ⟨e, h⟩ | ⟨c, hc, e, ha, h⟩
  · refine Or.inl ⟨e, fun s hs a => ?_⟩
    rcases Nat.lt_or_ge s n with z | z
    · exact h s z a
    · exact hn ((show s = n by omega) ▸ a)
  · refine Or.inr ⟨c, by omega, e, ha, fun s hs a => ?_⟩
    rcases Nat.lt_or_ge s n with z | z
    · exact h s z a
    · exact absurd ((show s = n by omega) ▸ a) hn
theorem tm_mx_gt {A : Nat → Prop} {f : Nat → Nat} {n : Nat} {r : Int32} (hf : ∀ s, f s < 2 ^ 31) (h : tm_MX A f n r) (ha : A n) (hg : r < nI (f n)) : tm_MX A f (n + 1) (nI (f n)) := by
  refine Or.inr ⟨n, by omega, rfl, ha, fun s hs a => ?_⟩
  rcases Nat.lt_or_ge s n with z | z
  · rcases h with ⟨_, h⟩ | ⟨c, _, e, _, h⟩
    · exact absurd a (h s z)
    · rw [e, nI_ltI (hf c) (hf n)] at hg
      exact Nat.le_of_lt (Nat.lt_of_le_of_lt (h s z a) hg)
  · rw [show s = n by omega]; exact Nat.le_refl _
theorem tm_mx_le {A : Nat → Prop} {f : Nat → Nat} {n : Nat} {r : Int32} (hf : ∀ s, f s < 2 ^ 31) (h : tm_MX A f n r) (ha : A n) (hg : ¬ r < nI (f n)) : tm_MX A f (n + 1) r := by
  rcases h with ⟨e, _⟩ | ⟨c, hc, e, hA, h⟩
  · exfalso
    apply hg
    rw [e]
    have z := nI_pos' (hf n)
    exact Int32.lt_of_lt_of_le (by decide) z
  · rw [e, nI_ltI (hf c) (hf n)] at hg
    refine Or.inr ⟨c, by omega, e, hA, fun s hs a => ?_⟩
    rcases Nat.lt_or_ge s n with z | z
    · exact h s z a
    · rw [show s = n by omega]; exact Nat.le_of_not_lt hg
theorem tm_mx_one {A : Nat → Prop} {f : Nat → Nat} {n : Nat} {r r' : Int32} (h : tm_MX A f n r) (h' : tm_MX A f n r') : r' = r := by
  rcases h with ⟨e, h⟩ | ⟨c, hc, e, ha, h⟩
  · rcases h' with ⟨e', _⟩ | ⟨c', hc', _, ha', _⟩
    · rw [e, e']
    · exact absurd ha' (h c' hc')
  · rcases h' with ⟨_, h'⟩ | ⟨c', hc', e', ha', h'⟩
    · exact absurd ha (h' c hc)
    · rw [e, e', Nat.le_antisymm (h c' hc' ha') (h' c hc ha)]
theorem tm_mx_iff {A B : Nat → Prop} {f : Nat → Nat} {n : Nat} {r : Int32} (e : ∀ s, s < n → (A s ↔ B s)) (h : tm_MX A f n r) : tm_MX B f n r := by
  rcases h with ⟨z, h⟩ | ⟨c, hc, z, ha, h⟩
  · exact Or.inl ⟨z, fun s hs b => h s hs ((e s hs).mpr b)⟩
  · exact Or.inr ⟨c, hc, z, (e c hc).mp ha, fun s hs b => h s hs ((e s hs).mpr b)⟩
/-! the price of j: a is the best set with j, b the best without -/
theorem tm_price {A : Nat → Prop} {w : Nat → Nat} {j v a b : Nat} {r : Int32} (hj : j < 8)
    (ha : a < 256 ∧ A a ∧ a.testBit j = true ∧ ∀ s, s < 256 → (A s ∧ s.testBit j = true) → tm_sc w s ≤ tm_sc w a)
    (hb : b < 256 ∧ A b ∧ ¬ b.testBit j = true ∧ ∀ s, s < 256 → (A s ∧ ¬ s.testBit j = true) → tm_sc w s ≤ tm_sc w b)
    (h : tm_BS A (tm_sc (tm_put w j v)) 256 r) :
    ∃ c, c < 256 ∧ r = nI c ∧ (c.testBit j = true ↔ (tm_sum w b 8 + w j < tm_sum w a 8 + v ∨ (tm_sum w b 8 + w j = tm_sum w a 8 + v ∧ tm_key b < tm_key a))) := by
  obtain ⟨la, Aa, ja, ma⟩ := ha
  obtain ⟨lb, Ab, jb, mb⟩ := hb
  rcases h with ⟨_, h⟩ | ⟨c, hc, e, Ac, h⟩
  · exact absurd Aa (h a la)
  · refine ⟨c, hc, e, ?_⟩
    have ka := tm_key_lt a
    have kb := tm_key_lt b
    have kc := tm_key_lt c
    have pa := tm_put_yes (w := w) (v := v) hj ja
    have pb := tm_put_no (w := w) (v := v) jb 8
    have ga := h a la Aa
    have gb := h b lb Ab
    have ne : tm_key a ≠ tm_key b := fun z => jb (tm_kinj la lb z ▸ ja)
    by_cases jc : c.testBit j = true
    · have pc := tm_put_yes (w := w) (v := v) hj jc
      have gc := ma c hc ⟨Ac, jc⟩
      unfold tm_sc at ga gb gc
      refine ⟨fun _ => ?_, fun _ => jc⟩
      omega
    · have pc := tm_put_no (w := w) (v := v) jc 8
      have gc := mb c hc ⟨Ac, jc⟩
      unfold tm_sc at ga gb gc
      refine ⟨fun z => absurd z jc, fun z => ?_⟩
      exfalso
      omega
