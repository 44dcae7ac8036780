/-! the component's best set, best worth, presence and least free number -/
/-- the sets that bestSet lets through -/
def tm_A (P M N : Int32) (S E : Nat → Int32) (k : Nat) (s : Nat) : Prop :=
  (nI s &&& (P ^^^ (-1))) = 0 ∧ (nI s &&& M) = M ∧ (nI s &&& N) = 0 ∧ tm_most S E s 16 ≤ k
section
variable {P T M N : Int32} {S E W : Nat → Int32}
theorem tx_b46 {post : Int32 → Prop} {J : Int32 → Int32 → Prop} {w : Nat → Nat} {k i : Nat} {r : Int32} (hw : ∀ i, i < 8 → W i = nI (w i)) (hl : ∀ i, w i ≤ 20) (hk : k < 2 ^ 31) (hi : i < 256)
    (h : tm_BS (tm_A P M N S E k) (tm_sc w) i r) (c1 : (nI i &&& (P ^^^ (-1))) = 0) (c2 : (nI i &&& M) = M) (c3 : (nI i &&& N) = 0)
    (g : ∀ r', tm_BS (tm_A P M N S E k) (tm_sc w) (i + 1) r' → J r' (nI (i + 1))) : wX_bestSet_46 post J M N (nI k) r (nI i) 1 P T S E W := by
  have l2 := tm_most_le S E i 16
  refine br_f (by decide) (tx_most hi ?_)
  refine pk_lt k (tm_most S E i 16) (fun c => nm_r (nI_1 i) (g _ (tm_bs_no h (fun a => ?_)))) (fun c => ?_)
  · have := a.2.2.2
    omega
  · have a : tm_A P M N S E k i := ⟨c1, c2, c3, c⟩
    by_cases e : r = -1
    · exact br_t e (nm_r (nI_1 i) (g _ (tm_bs_first (by omega) h e a)))
    · obtain ⟨c0, hc, rfl, ac, m⟩ := tm_bs_some h e
      refine br_f e (tx_goes hw hl hi (by omega) (fun q => ?_) (fun q => ?_))
      · exact br_f (by decide) (nm_r (nI_1 i) (g _ (tm_bs_new m a q)))
      · exact br_t rfl (nm_r (nI_1 i) (g _ (tm_bs_old hc ac m q)))
theorem tx_b45 {post : Int32 → Prop} {J : Int32 → Int32 → Prop} {w : Nat → Nat} {k i : Nat} {r : Int32}
    (h : tm_BS (tm_A P M N S E k) (tm_sc w) i r) (n : ¬ tm_A P M N S E k i)
    (g : ∀ r', tm_BS (tm_A P M N S E k) (tm_sc w) (i + 1) r' → J r' (nI (i + 1))) : wX_bestSet_45 post J M N (nI k) r (nI i) P T S E W :=
  br_t rfl (nm_r (nI_1 i) (g _ (tm_bs_no h n)))
theorem tx_best_l {post : Int32 → Prop} {w : Nat → Nat} {k : Nat} (hw : ∀ i, i < 8 → W i = nI (w i)) (hl : ∀ i, w i ≤ 20) (hk : k < 2 ^ 31)
    (hp : ∀ r, tm_BS (tm_A P M N S E k) (tm_sc w) 256 r → post r) : ∀ (d i : Nat) (r : Int32), i + d = 256 → tm_BS (tm_A P M N S E k) (tm_sc w) i r → wX_bestSet_6 post M N (nI k) P T S E W (d + 1) r (nI i) := by
  intro d
  induction d with
  | zero =>
    intro i r hi h
    have e : i = 256 := by omega
    subst e
    exact br_t (by decide) (hp r h)
  | succ d ih =>
    intro i r hi h
    have hn : ¬ (256 : Int32) ≤ nI i := nI_ge (b := 256) (by omega) (by decide)
    have g : ∀ r', tm_BS (tm_A P M N S E k) (tm_sc w) (i + 1) r' → wX_bestSet_6 post M N (nI k) P T S E W (d + 1) r' (nI (i + 1)) := fun r' h' => ih (i + 1) r' (by omega) h'
    refine br_f hn ?_
    by_cases c1 : (nI i &&& (P ^^^ (-1))) = 0
    · refine br_t c1 ?_
      by_cases c2 : (nI i &&& M) = M
      · refine br_t c2 ?_
        by_cases c3 : (nI i &&& N) = 0
        · exact br_t c3 (tx_b46 hw hl hk (by omega) h c1 c2 c3 g)
        · exact br_f c3 (tx_b45 h (fun a => c3 a.2.2.1) g)
      · exact br_f c2 (tx_b45 h (fun a => c2 a.2.1) g)
    · exact br_f c1 (tx_b45 h (fun a => c1 a.1) g)
theorem tx_bestSet {post : Int32 → Prop} {w : Nat → Nat} {k : Nat} (hw : ∀ i, i < 8 → W i = nI (w i)) (hl : ∀ i, w i ≤ 20) (hk : k < 2 ^ 31)
    (hp : ∀ r, tm_BS (tm_A P M N S E k) (tm_sc w) 256 r → post r) : wpX_bestSet post (P, T, S, E, W) M N (nI k) :=
  ⟨257, tx_best_l hw hl hk hp 256 0 (-1) rfl (tm_bs0 _ _)⟩
theorem tx_bestWorth {post : Int32 → Prop} {w : Nat → Nat} {k : Nat} (hw : ∀ i, i < 8 → W i = nI (w i)) (hl : ∀ i, w i ≤ 20) (hk : k < 2 ^ 31)
    (hp : ∀ r, tm_MX (tm_A P M N S E k) (fun s => tm_sum w s 8) 256 r → post r) : wpX_bestWorth post (P, T, S, E, W) M N (nI k) := by
  unfold wpX_bestWorth
  dsimp only
  refine tx_bestSet hw hl hk (fun r h => ?_)
  by_cases e : r = -1
  · refine br_t e (hp _ ?_)
    rcases h with h | ⟨c, hc, e', _, _⟩
    · exact Or.inl ⟨rfl, h.2⟩
    · exact absurd (e'.symm.trans e) (tm_neg (by omega))
  · obtain ⟨c, hc, rfl, ac, m⟩ := tm_bs_some h e
    refine br_f e (tx_worthOf hw hc (hp _ ?_))
    exact Or.inr ⟨c, hc, rfl, ac, fun s hs a => tm_sc_le (m s hs a)⟩
theorem tx_pres {post : Int32 → Prop} {p : Nat} (hp : p < 256) (v : Int32) (h1 : ∀ j, j < 8 → v = nI j → p.testBit j = true → post 1) (h0 : (∀ j, j < 8 → v = nI j → ¬ p.testBit j = true) → post 0) : wpX_isPresent post (nI p, T, S, E, W) v := by
  rcases pk_ix v (n := 8) (by decide) with a | a | ⟨j, hj, rfl⟩
  · refine br_t a (h0 (fun j hj e => ?_))
    rw [e] at a
    exact absurd a (nI_pos (by omega))
  · have b : ¬ v < 0 := Int32.not_lt.mpr (Int32.le_trans (by decide) a)
    refine br_f b (br_t a (h0 (fun j hj e => ?_)))
    rw [e] at a
    exact absurd a (nI_ge hj (by decide))
  · have b : ¬ (8 : Int32) ≤ nI j := nI_ge (b := 8) hj (by decide)
    refine br_f (nI_pos (by omega)) (br_f b ?_)
    by_cases c : p.testBit j = true
    · exact br_f (fun z => (tm_xb p hp j hj).mp z c) (h1 j hj rfl c)
    · refine br_t ((tm_xb p hp j hj).mpr c) (h0 (fun i hi e => ?_))
      rw [nI_eq (by omega) (by omega)] at e
      rw [← e]
      exact c
/-- j is the least number below 8 that p doesn't hold, 8 when it holds all -/
def tm_Fr (p j : Nat) : Prop := j ≤ 8 ∧ (∀ i, i < j → p.testBit i = true) ∧ (j < 8 → ¬ p.testBit j = true)
theorem tx_free_l {post : Int32 → Prop} {p : Nat} (hp : p < 256) (h : ∀ j, tm_Fr p j → post (nI j)) : ∀ d j : Nat, j + d = 8 → (∀ i, i < j → p.testBit i = true) → wX_leastFreeNumber_2 post (nI p) T S E W (d + 1) (nI j) := by
  intro d
  induction d with
  | zero =>
    intro j hj hb
    have e : j = 8 := by omega
    subst e
    exact br_t (by decide) (h 8 ⟨by omega, hb, fun z => absurd z (by decide)⟩)
  | succ d ih =>
    intro j hj hb
    have hn : ¬ (8 : Int32) ≤ nI j := nI_ge (b := 8) (by omega) (by decide)
    refine br_f hn ?_
    by_cases c : p.testBit j = true
    · exact br_f (fun z => (tm_xb p hp j (by omega)).mp z c) (nm_r (nI_1 j) (ih (j + 1) (by omega) (lt_s hb c)))
    · exact br_t ((tm_xb p hp j (by omega)).mpr c) (h j ⟨by omega, hb, fun _ => c⟩)
theorem tx_free {post : Int32 → Prop} {p : Nat} (hp : p < 256) (h : ∀ j, tm_Fr p j → post (nI j)) : wpX_leastFreeNumber post (nI p, T, S, E, W) := ⟨9, tx_free_l hp h 8 0 rfl (fun i hi => absurd hi (Nat.not_lt_zero i))⟩
end
