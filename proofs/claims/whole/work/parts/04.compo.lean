/-! the component's private methods, each with a general post -/
section
variable {P T : Int32} {S E W : Nat → Int32}
theorem tx_cnt_l {post : Int32 → Prop} {s : Nat} (hs : s < 256) (t : Int32) (hp : post (nI (tm_cnt S E s t 8))) : ∀ d j : Nat, j + d = 8 → wX_countAt_5 post (nI s) t P T S E W (d + 1) (nI (tm_cnt S E s t j)) (nI j) := by
  intro d
  induction d with
  | zero =>
    intro j hj
    have e : j = 8 := by omega
    subst e
    exact br_t (by decide) hp
  | succ d ih =>
    intro j hj
    have h : ¬ (8 : Int32) ≤ nI j := nI_ge (b := 8) (by omega) (by decide)
    have hi : vp_in (nI j) 8 := vp_in_nI (by omega) (by decide)
    have hc : (nI j).toNatClampNeg = j := nI_clamp (by omega)
    have i := ih (j + 1) (by omega)
    by_cases b : s.testBit j = true
    · have hb : ¬ (nI s &&& ((1 : Int32) <<< (nI j &&& 31))) = 0 := fun z => (tm_xb s hs j (by omega)).mp z b
      by_cases c1 : t < S j
      · rw [tm_cnt_n (fun z => Int32.not_lt.mpr z.2.1 c1)] at i
        exact br_f h (br_f hb ⟨hi, br_t (by rw [hc]; exact c1) (nm_r (nI_1 j) i)⟩)
      · by_cases c2 : E j ≤ t
        · rw [tm_cnt_n (fun z => Int32.not_le.mpr z.2.2 c2)] at i
          exact br_f h (br_f hb ⟨hi, br_f (by rw [hc]; exact c1) ⟨hi, br_t (by rw [hc]; exact c2) (nm_r (nI_1 j) i)⟩⟩)
        · rw [tm_cnt_y ⟨b, Int32.not_lt.mp c1, Int32.not_le.mp c2⟩] at i
          exact br_f h (br_f hb ⟨hi, br_f (by rw [hc]; exact c1) ⟨hi, br_f (by rw [hc]; exact c2) (nm_r (nI_1 _) (nm_r (nI_1 j) i))⟩⟩)
    · rw [tm_cnt_n (fun z => b z.1)] at i
      exact br_f h (br_t ((tm_xb s hs j (by omega)).mpr b) (nm_r (nI_1 j) i))
theorem tx_countAt {post : Int32 → Prop} {s : Nat} (hs : s < 256) (t : Int32) (hp : post (nI (tm_cnt S E s t 8))) : wpX_countAt post (P, T, S, E, W) (nI s) t := ⟨9, tx_cnt_l hs t hp 8 0 rfl⟩
theorem tx_most_l {post : Int32 → Prop} {s : Nat} (hs : s < 256) (hp : post (nI (tm_most S E s 16))) : ∀ d t : Nat, t + d = 16 → wX_mostAtOnce_4 post (nI s) P T S E W (d + 1) (nI (tm_most S E s t)) (nI t) := by
  intro d
  induction d with
  | zero =>
    intro t ht
    have e : t = 16 := by omega
    subst e
    exact br_t (by decide) hp
  | succ d ih =>
    intro t ht
    have h : ¬ (16 : Int32) ≤ nI t := nI_ge (b := 16) (by omega) (by decide)
    have i := ih (t + 1) (by omega)
    have l1 := tm_cnt_le S E s (nI t) 8
    have l2 := tm_most_le S E s t
    refine br_f h (tx_countAt hs (nI t) ?_)
    by_cases c : tm_most S E s t < tm_cnt S E s (nI t) 8
    · rw [tm_most_y c] at i
      exact br_f (nI_ge c (by omega)) (nm_r (nI_1 t) i)
    · rw [tm_most_n c] at i
      exact br_t (nI_le (by omega) (by omega)) (nm_r (nI_1 t) i)
theorem tx_most {post : Int32 → Prop} {s : Nat} (hs : s < 256) (hp : post (nI (tm_most S E s 16))) : wpX_mostAtOnce post (P, T, S, E, W) (nI s) := ⟨17, tx_most_l hs hp 16 0 rfl⟩
theorem tx_sum_l {post : Int32 → Prop} {w : Nat → Nat} {s : Nat} (hw : ∀ i, i < 8 → W i = nI (w i)) (hs : s < 256) (hp : post (nI (tm_sum w s 8))) : ∀ d j : Nat, j + d = 8 → wX_worthOf_4 post (nI s) P T S E W (d + 1) (nI (tm_sum w s j)) (nI j) := by
  intro d
  induction d with
  | zero =>
    intro j hj
    have e : j = 8 := by omega
    subst e
    exact br_t (by decide) hp
  | succ d ih =>
    intro j hj
    have h : ¬ (8 : Int32) ≤ nI j := nI_ge (b := 8) (by omega) (by decide)
    have hi : vp_in (nI j) 8 := vp_in_nI (by omega) (by decide)
    have hc : (nI j).toNatClampNeg = j := nI_clamp (by omega)
    have i := ih (j + 1) (by omega)
    by_cases b : s.testBit j = true
    · have hb : ¬ (nI s &&& ((1 : Int32) <<< (nI j &&& 31))) = 0 := fun z => (tm_xb s hs j (by omega)).mp z b
      rw [tm_sum_y b] at i
      exact br_f h (br_f hb ⟨hi, nm_r (by rw [hc, hw j (by omega), nI_add]) (nm_r (nI_1 j) i)⟩)
    · rw [tm_sum_n b] at i
      exact br_f h (br_t ((tm_xb s hs j (by omega)).mpr b) (nm_r (nI_1 j) i))
theorem tx_worthOf {post : Int32 → Prop} {w : Nat → Nat} {s : Nat} (hw : ∀ i, i < 8 → W i = nI (w i)) (hs : s < 256) (hp : post (nI (tm_sum w s 8))) : wpX_worthOf post (P, T, S, E, W) (nI s) := ⟨9, tx_sum_l hw hs hp 8 0 rfl⟩
theorem tx_least {post : Int32 → Prop} {a b : Nat} (ha : a < 256) (hb : b < 256) (h1 : tm_key b < tm_key a → post 1) (h0 : ¬ tm_key b < tm_key a → post 0) : wpX_hasLeastDifference post (P, T, S, E, W) (nI a) (nI b) := by
  by_cases e : ∃ i, i < 8 ∧ a.testBit i ≠ b.testBit i
  · obtain ⟨i, ⟨hi, hd⟩, hl⟩ := pk_least (fun i => i < 8 ∧ a.testBit i ≠ b.testBit i) e
    have hx : a ^^^ b < 256 := Nat.xor_lt_two_pow (n := 8) ha hb
    have l1 : (a ^^^ b).testBit i = true := by
      rw [Nat.testBit_xor]
      revert hd
      cases a.testBit i <;> cases b.testBit i <;> decide
    have z : ∀ k, k < i → a.testBit k = b.testBit k := fun k hk => Classical.byContradiction (fun q => hl k hk ⟨by omega, q⟩)
    have l2 : ∀ k, k < i → (a ^^^ b).testBit k = false := fun k hk => by rw [Nat.testBit_xor, z k hk, Bool.xor_self]
    have key : tm_key b < tm_key a ↔ tm_d a i = 1 := tm_kl hi (fun k hk => by unfold tm_d; rw [z k hk]) (fun q => hd (tm_d_bit q))
    refine nm_r (nx_xor a b) (nm_r (tm_low _ hx i hi l1 l2) ?_)
    by_cases q : a.testBit i = true
    · exact br_f (fun y => (tm_xb a ha i hi).mp y q) (h1 (key.mpr (tm_d_t q)))
    · exact br_t ((tm_xb a ha i hi).mpr q) (h0 (fun y => q (tm_d_eq1.mp (key.mp y))))
  · have eab : a = b := tm_bits ha hb (fun i hi => Classical.byContradiction (fun q => e ⟨i, hi, q⟩))
    subst eab
    refine nm_r (nx_xor a a) (nm_r (e' := 0) (by rw [Nat.xor_self]; decide) ?_)
    exact br_t Int32.and_zero (h0 (Nat.lt_irrefl _))
theorem tx_goes {post : Int32 → Prop} {w : Nat → Nat} {a b : Nat} (hw : ∀ i, i < 8 → W i = nI (w i)) (hl : ∀ i, w i ≤ 20) (ha : a < 256) (hb : b < 256) (h1 : tm_sc w b < tm_sc w a → post 1) (h0 : ¬ tm_sc w b < tm_sc w a → post 0) : wpX_goesBefore post (P, T, S, E, W) (nI a) (nI b) := by
  have la := tm_sum_le hl a 8
  have lb := tm_sum_le hl b 8
  unfold wpX_goesBefore
  dsimp only
  refine tx_worthOf hw ha ?_
  refine tx_worthOf hw hb ?_
  refine pk_lt (tm_sum w b 8) (tm_sum w a 8) (fun c => h1 (tm_sc_lt.mpr (Or.inl c))) (fun c => ?_)
  refine pk_eq (tm_sum w a 8) (tm_sum w b 8) (fun c2 => ?_) (fun c2 => h0 (fun q => ?_))
  · refine tx_least ha hb (fun q => ?_) (fun q => ?_)
    · exact br_f (by decide) (h1 (tm_sc_lt.mpr (Or.inr ⟨c2, q⟩)))
    · refine br_t rfl (h0 (fun y => ?_))
      rcases tm_sc_lt.mp y with y | y
      · omega
      · exact q y.2
  · rcases tm_sc_lt.mp q with y | y
    · omega
    · exact c2 y.1
end
