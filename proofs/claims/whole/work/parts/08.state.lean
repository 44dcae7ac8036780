/-! the relation, and what bring, take, revalue do to it -/
def tm_Ok (p k : Nat) (w : Nat → Nat) (S E W H : Nat → Int32) : Prop :=
  p < 256 ∧ k ≤ 4 ∧ (∀ i, i < 8 → H i = nI (tm_d p i)) ∧ (∀ i, W i = nI (w i)) ∧ (∀ i, w i ≤ 20) ∧ (∀ i, 0 ≤ S i ∧ E i ≤ 16)
def i_Rel (_ : Nat) (u : SX) (v : SY) : Prop :=
  ∃ (p k : Nat) (w : Nat → Nat) (S E W H D : Nat → Int32), u = (nI p, nI k, S, E, W) ∧ v = (nI k, H, S, E, W, D) ∧ tm_Ok p k w S E W H
theorem tm_rel {n p k : Nat} {w : Nat → Nat} {S E W H : Nat → Int32} (D : Nat → Int32) (ok : tm_Ok p k w S E W H) : i_Rel n (nI p, nI k, S, E, W) (nI k, H, S, E, W, D) := ⟨p, k, w, S, E, W, H, D, rfl, rfl, ok⟩
theorem tm_start {n : Nat} (hn : n ≤ 4) : i_Rel 1 (0, nI n, (fun _ => 0), (fun _ => 0), (fun _ => 0)) (nI n, (fun _ => 0), (fun _ => 0), (fun _ => 0), (fun _ => 0), (fun _ => 0)) := by
  refine ⟨0, n, fun _ => 0, fun _ => 0, fun _ => 0, fun _ => 0, fun _ => 0, fun _ => 0, rfl, rfl, by decide, hn, fun i _ => ?_, fun _ => rfl, fun _ => Nat.zero_le 20, fun _ => ⟨show (0 : Int32) ≤ 0 by decide, show (0 : Int32) ≤ 16 by decide⟩⟩
  rw [tm_d_f (by rw [Nat.zero_testBit]; decide)]
  rfl
def tm_Sp (a b : Int32) : Prop := ¬ a < 0 ∧ ¬ b ≤ a ∧ ¬ 16 < b
def tm_Wo (a : Int32) : Prop := ¬ a < 1 ∧ ¬ 20 < a
theorem tm_wo {a : Int32} (h : tm_Wo a) : ∃ y : Nat, y ≤ 20 ∧ a = nI y :=
  nI_of2 (M := 20) (n := 20) (by decide) (fun z => h.1 (Int32.lt_trans z (by decide))) (Int32.not_lt.mp h.2)
theorem tm_v0 : vp_nar .boolean 0 = 0 := rfl
theorem tm_v1 : vp_nar .boolean 1 = 1 := rfl
theorem tm_ok_w {p k j y : Nat} {w : Nat → Nat} {S E W H : Nat → Int32} (ok : tm_Ok p k w S E W H) (hy : y ≤ 20) : tm_Ok p k (tm_put w j y) S E (upd W j (nI y)) H := by
  obtain ⟨hp, hk, hH, hW, hl, hS⟩ := ok
  refine ⟨hp, hk, hH, fun i => ?_, fun i => ?_, hS⟩
  · by_cases z : i = j
    · subst z
      rw [pk_us, tm_put_s]
    · rw [pk_un z, tm_put_n z, hW]
  · unfold tm_put
    split
    · exact hy
    · exact hl i
theorem tm_ok_s {p k j : Nat} {w : Nat → Nat} {S E W H : Nat → Int32} {a b : Int32} (ok : tm_Ok p k w S E W H) (h : tm_Sp a b) : tm_Ok p k w (upd S j a) (upd E j b) W H := by
  obtain ⟨hp, hk, hH, hW, hl, hS⟩ := ok
  refine ⟨hp, hk, hH, hW, hl, fun i => ?_⟩
  by_cases z : i = j
  · subst z
    rw [pk_us, pk_us]
    exact ⟨Int32.not_lt.mp h.1, Int32.not_lt.mp h.2.2⟩
  · rw [pk_un z, pk_un z]
    exact hS i
theorem tm_ok_in {p k j : Nat} {w : Nat → Nat} {S E W H : Nat → Int32} (hj : j < 8) (ok : tm_Ok p k w S E W H) : tm_Ok (p ||| 2 ^ j) k w S E W (upd H j 1) := by
  obtain ⟨hp, hk, hH, hW, hl, hS⟩ := ok
  refine ⟨(tm_or p hp j hj).2, hk, fun i hi => ?_, hW, hl, hS⟩
  by_cases z : i = j
  · subst z
    rw [pk_us, tm_d_t (by rw [tm_or_bit, decide_eq_true rfl, Bool.or_true])]
    rfl
  · rw [pk_un z, hH i hi]
    unfold tm_d
    rw [tm_or_bit, decide_eq_false (fun q => z q.symm), Bool.or_false]
theorem tm_ok_out {p k j : Nat} {w : Nat → Nat} {S E W H : Nat → Int32} (hj : j < 8) (ok : tm_Ok p k w S E W H) : tm_Ok (p &&& (255 - 2 ^ j)) k w S E W (upd H j 0) := by
  obtain ⟨hp, hk, hH, hW, hl, hS⟩ := ok
  refine ⟨(tm_and p hp j hj).2, hk, fun i hi => ?_, hW, hl, hS⟩
  by_cases z : i = j
  · subst z
    rw [pk_us, tm_d_f (by rw [tm_and_bit hj hj, decide_eq_false (fun q => q rfl), Bool.and_false]; decide)]
    rfl
  · rw [pk_un z, hH i hi]
    unfold tm_d
    rw [tm_and_bit hj hi, decide_eq_true (show j ≠ i from fun q => z q.symm), Bool.and_true]
section
variable {P T L : Int32} {S E W V H D : Nat → Int32}
theorem tx_span {post : Int32 → Prop} {a b : Int32} (h1 : tm_Sp a b → post 1) (h0 : ¬ tm_Sp a b → post 0) : wpX_isSpan post (P, T, S, E, W) a b :=
  br_c (fun c => h0 (fun z => z.1 c)) (fun c => br_c (fun c2 => h0 (fun z => z.2.1 c2)) (fun c2 => br_c (fun c3 => h0 (fun z => z.2.2 c3)) (fun c3 => h1 ⟨c, c2, c3⟩)))
theorem tx_worth {post : Int32 → Prop} {a : Int32} (h1 : tm_Wo a → post 1) (h0 : ¬ tm_Wo a → post 0) : wpX_isWorth post (P, T, S, E, W) a :=
  br_c (fun c => h0 (fun z => z.1 c)) (fun c => br_c (fun c2 => h0 (fun z => z.2 c2)) (fun c2 => h1 ⟨c, c2⟩))
theorem ty_bring_l {post : Int32 → SY → Prop} {a b c : Int32} {p j0 : Nat} (hth : ∀ i, i < 8 → H i = nI (tm_d p i)) (hF : tm_Fr p j0) (h8 : j0 = 8 → post (-2) (L, H, S, E, V, D))
    (h : j0 < 8 → post (nI j0) (L, upd H j0 1, upd S j0 a, upd E j0 b, upd V j0 c, D)) : ∀ d j : Nat, j + d = 8 → j ≤ j0 → wY_bring_31 post a b c L H S E V D (d + 1) (nI j) := by
  intro d
  induction d with
  | zero =>
    intro j hj hle
    have e : j = 8 := by omega
    subst e
    have := hF.1
    exact br_t (by decide) (h8 (by omega))
  | succ d ih =>
    intro j hj hle
    have hn : ¬ (8 : Int32) ≤ nI j := nI_ge (b := 8) (by omega) (by decide)
    have hi : vp_in (nI j) 8 := vp_in_nI (by omega) (by decide)
    have hc : (nI j).toNatClampNeg = j := nI_clamp (by omega)
    refine br_f hn ⟨hi, ?_⟩
    by_cases z : j = j0
    · subst z
      refine br_t (by rw [hc, hth j (by omega), tm_d_f (hF.2.2 (by omega))]; decide) ?_
      exact ⟨hi, nm_r (by rw [hc, tm_v1]) ⟨hi, nm_r (by rw [hc]) ⟨hi, nm_r (by rw [hc]) ⟨hi, nm_r (by rw [hc]) (h (by omega))⟩⟩⟩⟩
    · exact br_f (by rw [hc, hth j (by omega), tm_d_t (hF.2.1 j (by omega))]; decide) (nm_r (nI_1 j) (ih (j + 1) (by omega) (by omega)))
theorem ty_bring {post : Int32 → SY → Prop} {a b c : Int32} {p j0 : Nat} (hth : ∀ i, i < 8 → H i = nI (tm_d p i)) (h0 : ¬ (tm_Sp a b ∧ tm_Wo c) → post (-1) (L, H, S, E, V, D)) (hF : tm_Sp a b ∧ tm_Wo c → tm_Fr p j0)
    (h8 : tm_Sp a b ∧ tm_Wo c → j0 = 8 → post (-2) (L, H, S, E, V, D)) (h : tm_Sp a b ∧ tm_Wo c → j0 < 8 → post (nI j0) (L, upd H j0 1, upd S j0 a, upd E j0 b, upd V j0 c, D)) : wpY_bring post (L, H, S, E, V, D) a b c := by
  refine br_c (fun c1 => h0 (fun z => z.1.1 c1)) (fun c1 => ?_)
  refine br_c (fun c2 => h0 (fun z => z.1.2.1 c2)) (fun c2 => ?_)
  refine br_c (fun c3 => h0 (fun z => z.1.2.2 c3)) (fun c3 => ?_)
  refine br_c (fun c4 => h0 (fun z => z.2.1 c4)) (fun c4 => ?_)
  refine br_c (fun c5 => ?_) (fun c5 => h0 (fun z => c5 (Int32.not_lt.mp z.2.2)))
  have q : tm_Sp a b ∧ tm_Wo c := ⟨⟨c1, c2, c3⟩, ⟨c4, Int32.not_lt.mpr c5⟩⟩
  exact ⟨9, ty_bring_l hth (hF q) (h8 q) (h q) 8 0 rfl (Nat.zero_le _)⟩
end
