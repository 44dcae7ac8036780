/-! the price and totalWith: loops of the reference, walks of the component -/
theorem tm_A00 {p k s : Nat} {S E : Nat → Int32} : tm_A (nI p) 0 0 S E k s ↔ tm_B p S E k s :=
  ⟨fun a => ⟨a.1, a.2.2.2⟩, fun b => ⟨b.1, Int32.and_zero, Int32.and_zero, b.2⟩⟩
theorem tm_bs_mx {p k : Nat} {S E : Nat → Int32} {w : Nat → Nat} {r : Int32} (h : tm_BS (tm_B p S E k) (tm_sc w) 256 r) :
    ∃ c, c < 256 ∧ r = nI c ∧ tm_MX (tm_B p S E k) (fun s => tm_sum w s 8) 256 (nI (tm_sum w c 8)) := by
  rcases h with ⟨_, h⟩ | ⟨c, hc, e, ac, m⟩
  · exact absurd (tm_B0 p S E k) (h 0 (by decide))
  · exact ⟨c, hc, e, Or.inr ⟨c, hc, rfl, ac, fun s hs a => tm_sc_le (m s hs a)⟩⟩
/-- m is the least number above v and at most 20 with C, 21 when there is none -/
def tm_Lst (C : Nat → Prop) (v m : Nat) : Prop := (m = 21 ∧ ∀ x, v < x → x ≤ 20 → ¬ C x) ∨ (v < m ∧ m ≤ 20 ∧ C m ∧ ∀ x, v < x → x < m → ¬ C x)
theorem tm_lst0 {C : Nat → Prop} : tm_Lst C 20 21 := Or.inl ⟨rfl, fun x a b => by omega⟩
theorem tm_lst_y {C : Nat → Prop} {v : Nat} (hv : v + 1 ≤ 20) (c : C (v + 1)) : tm_Lst C v (v + 1) := Or.inr ⟨by omega, hv, c, fun x a b => by omega⟩
theorem tm_lst_n {C : Nat → Prop} {v m : Nat} (h : tm_Lst C (v + 1) m) (c : ¬ C (v + 1)) : tm_Lst C v m := by
  rcases h with ⟨e, h⟩ | ⟨h1, h2, h3, h4⟩
  · refine Or.inl ⟨e, fun x a b z => ?_⟩
    rcases Nat.lt_or_ge (v + 1) x with y | y
    · exact h x y b z
    · exact c ((show x = v + 1 by omega) ▸ z)
  · refine Or.inr ⟨by omega, h2, h3, fun x a b z => ?_⟩
    rcases Nat.lt_or_ge (v + 1) x with y | y
    · exact h4 x y b z
    · exact c ((show x = v + 1 by omega) ▸ z)
theorem tm_lst_one {C : Nat → Prop} {m m' : Nat} (h : tm_Lst C 0 m) (h' : tm_Lst C 0 m') : m' = m := by
  rcases h with ⟨e, h⟩ | ⟨h1, h2, h3, h4⟩
  · rcases h' with ⟨e', _⟩ | ⟨g1, g2, g3, _⟩
    · omega
    · exact absurd g3 (h m' g1 g2)
  · rcases h' with ⟨e', h'⟩ | ⟨g1, g2, g3, g4⟩
    · exact absurd h3 (h' m h1 h2)
    · rcases Nat.lt_trichotomy m m' with z | z | z
      · exact absurd h3 (g4 m h1 z)
      · exact z.symm
      · exact absurd g3 (h4 m' g1 z)
/-- C says with which worths j is chosen -/
def tm_Pr (p : Nat) (S E : Nat → Int32) (k : Nat) (w : Nat → Nat) (j : Nat) (C : Nat → Prop) : Prop :=
  ∀ (v : Nat) (r : Int32), 1 ≤ v → v ≤ 20 → tm_BS (tm_B p S E k) (tm_sc (tm_put w j v)) 256 r → ∃ c, c < 256 ∧ r = nI c ∧ (c.testBit j = true ↔ C v)
section
variable {H S E V D : Nat → Int32}
theorem ty_price_l {post : Int32 → SY → Prop} {w : Nat → Nat} {p k j : Nat} {C : Nat → Prop} (hp8 : p < 256) (hth : ∀ i, i < 8 → H i = nI (tm_d p i)) (hD : tm_Ld p S E D) (hV : ∀ i, V i = nI (w i)) (hl : ∀ i, w i ≤ 20) (hk : k < 2 ^ 31) (hj : j < 8)
    (hC : tm_Pr p S E k w j C) (hp : ∀ m, tm_Lst C 0 m → post (nI m) (nI k, H, S, E, V, D)) :
    ∀ (v m : Nat) (V' : Nat → Int32), v ≤ 20 → (∀ i, i ≠ j → V' i = V i) → tm_Lst C v m → wY_price_28 post (nI j) (nI (w j)) (nI k) (v + 1) (nI m) (nI v) H S E V' D := by
  have hx : (nI j).toNatClampNeg = j := nI_clamp (by omega)
  have hv8 : vp_in (nI j) 8 := vp_in_nI hj (by decide)
  intro v
  induction v with
  | zero =>
    intro m V' _ h1 h2
    have e : upd V' (nI j).toNatClampNeg (nI (w j)) = V := by
      rw [hx]
      funext i
      by_cases z : i = j
      · subst z
        rw [pk_us, hV]
      · rw [pk_un z, h1 i z]
    exact br_t (by decide) ⟨hv8, nm_r e (hp m h2)⟩
  | succ v ih =>
    intro m V' hv h1 h2
    have hn : ¬ nI (v + 1) < 1 := nI_nlt (b := 1) (by omega) (by omega)
    have u1 : ∀ i, i ≠ j → upd V' j (nI (v + 1)) i = V i := fun i hi => by rw [pk_un hi, h1 i hi]
    refine br_f hn ⟨hv8, nm_e ?_⟩
    rw [hx]
    refine ty_best (w := tm_put w j (v + 1)) hp8 hth hD (fun i hi => ?_) (fun i => ?_) hk (fun r hr => ?_)
    · by_cases z : i = j
      · subst z
        rw [pk_us, tm_put_s]
      · rw [u1 i z, hV, tm_put_n z]
    · unfold tm_put
      split
      · omega
      · exact hl i
    · obtain ⟨c, hc, rfl, iff⟩ := hC (v + 1) r (by omega) hv hr
      have y := tm_yb c hc j hj
      by_cases q : c.testBit j = true
      · exact br_t (by rw [y, tm_d_t q]; decide) (nm_r (pk_m1 v) (ih (v + 1) _ (by omega) u1 (tm_lst_y hv (iff.mp q))))
      · exact br_f (by rw [y, tm_d_f q]; decide) (nm_r (pk_m1 v) (ih m _ (by omega) u1 (tm_lst_n h2 (fun z => q (iff.mpr z)))))
theorem ty_price {post : Int32 → SY → Prop} {w : Nat → Nat} {p k j : Nat} {C : Nat → Prop} (hp8 : p < 256) (hth : ∀ i, i < 8 → H i = nI (tm_d p i)) (hV : ∀ i, V i = nI (w i)) (hl : ∀ i, w i ≤ 20) (hk : k < 2 ^ 31) (hj : j < 8) (hb : p.testBit j = true)
    (hC : tm_Pr p S E k w j C) (hp : ∀ m D', tm_Lst C 0 m → post (nI m) (nI k, H, S, E, V, D')) : wpY_price post (nI k, H, S, E, V, D) (nI j) := by
  have hx : (nI j).toNatClampNeg = j := nI_clamp (by omega)
  have hv8 : vp_in (nI j) 8 := vp_in_nI hj (by decide)
  unfold wpY_price
  dsimp only
  refine ty_is hth (nI j) (fun i hi e b => ?_) (fun n => absurd hb (n j hj rfl))
  refine br_f (by decide) (ty_work hp8 hth (fun D' hD => ?_))
  refine ⟨hv8, nm_r (e' := nI (w j)) (by rw [hx]; exact hV j) ⟨21, ?_⟩⟩
  exact ty_price_l hp8 hth hD hV hl hk hj hC (fun m z => hp m D' z) 20 21 V (Nat.le_refl 20) (fun _ _ => rfl) tm_lst0
theorem ty_tw_l {post : Int32 → SY → Prop} {w : Nat → Nat} {p k : Nat} {x1 x2 : Int32} (hD : tm_Ld p S E D) (hw : ∀ i, i < 8 → V i = nI (w i)) (hl : ∀ i, w i ≤ 20) (hk : k < 2 ^ 31)
    (hp : ∀ r, tm_MX (tm_A (nI p) (x1 &&& nI p) x2 S E k) (fun s => tm_sum w s 8) 256 r → post r (nI k, H, S, E, V, D)) :
    ∀ (d i : Nat) (r : Int32), i + d = 256 → tm_MX (tm_A (nI p) (x1 &&& nI p) x2 S E k) (fun s => tm_sum w s 8) i r → wY_totalWith_15 post x1 x2 (nI p) (nI k) H S E V D (d + 1) r (nI i) := by
  have hf : ∀ s, (fun s => tm_sum w s 8) s < 2 ^ 31 := fun s => by
    have := tm_sum_le hl s 8
    show tm_sum w s 8 < 2 ^ 31
    omega
  intro d
  induction d with
  | zero =>
    intro i r hi h
    have e : i = 256 := by omega
    subst e
    exact br_t (by decide) (hp r h)
  | succ d ih =>
    intro i r hi h
    have hn : ¬ (256 : Int32) ≤ nI i := nI_ge (b := 256) (by omega) (by decide)
    have hx : (nI i).toNatClampNeg = i := nI_clamp (by omega)
    have l2 := tm_most_le S E i 16
    have no : ¬ tm_A (nI p) (x1 &&& nI p) x2 S E k i → wY_totalWith_15 post x1 x2 (nI p) (nI k) H S E V D (d + 1) r (nI (i + 1)) := fun z => ih (i + 1) r (by omega) (tm_mx_no h z)
    refine br_f hn ?_
    by_cases c1 : (nI i &&& (nI p ^^^ (-1))) = 0
    · refine br_t c1 ⟨vp_in_nI (by omega) (by decide), ?_⟩
      refine pk_lt k (tm_most S E i 16) (fun q => nm_r (nI_1 i) (no (fun a => ?_))) (fun q => ?_) rfl (by rw [hx]; exact hD i (by omega) c1)
      · have := a.2.2.2
        omega
      · by_cases c2 : ((x1 &&& nI p) &&& (nI i ^^^ (-1))) = 0
        · refine br_t c2 ?_
          by_cases c3 : (x2 &&& nI i) = 0
          · have a : tm_A (nI p) (x1 &&& nI p) x2 S E k i := ⟨c1, (tm_mst _ _).mpr c2, by rw [Int32.and_comm]; exact c3, q⟩
            refine br_t c3 (ty_sum hw (by omega) ?_)
            by_cases g : r < nI (tm_sum w i 8)
            · exact br_f (Int32.not_le.mpr g) (nm_r (nI_1 i) (ih (i + 1) _ (by omega) (tm_mx_gt hf h a g)))
            · exact br_t (Int32.not_lt.mp g) (nm_r (nI_1 i) (ih (i + 1) _ (by omega) (tm_mx_le hf h a g)))
          · exact br_f c3 (nm_r (nI_1 i) (no (fun a => c3 (by rw [Int32.and_comm]; exact a.2.2.1))))
        · exact br_f c2 (nm_r (nI_1 i) (no (fun a => c2 ((tm_mst _ _).mp a.2.1))))
    · exact br_f c1 (nm_r (nI_1 i) (no (fun a => c1 a.1)))
theorem ty_totalWith {post : Int32 → SY → Prop} {w : Nat → Nat} {p k : Nat} {x1 x2 : Int32} (hp8 : p < 256) (hth : ∀ i, i < 8 → H i = nI (tm_d p i)) (hw : ∀ i, i < 8 → V i = nI (w i)) (hl : ∀ i, w i ≤ 20) (hk : k < 2 ^ 31)
    (hp : ∀ r D', tm_MX (tm_A (nI p) (x1 &&& nI p) x2 S E k) (fun s => tm_sum w s 8) 256 r → post r (nI k, H, S, E, V, D')) : wpY_totalWith post (nI k, H, S, E, V, D) x1 x2 := by
  unfold wpY_totalWith
  dsimp only
  refine ty_work hp8 hth (fun D' hD => ?_)
  refine ty_jobs hp8 hth ⟨257, ?_⟩
  exact ty_tw_l hD hw hl hk (fun r h => hp r D' h) 256 0 (-1) rfl (tm_mx0 _ _)
end
section
variable {P T : Int32} {S E W : Nat → Int32}
theorem tx_p82 {post : Int32 → Prop} {z : Int32} {C : Nat → Prop} (G : Int) (hz : z.toInt = G) (hC : ∀ v : Nat, 1 ≤ v → v ≤ 20 → (C v ↔ G ≤ (v : Int))) (hp : ∀ m, tm_Lst C 0 m → post (nI m)) : wX_price_82 post z P T S E W := by
  have o1 : (1 : Int32).toInt = 1 := by decide
  have o2 : (20 : Int32).toInt = 20 := by decide
  by_cases c1 : 1 ≤ G
  · have h1 : (1 : Int32) ≤ z := by rw [Int32.le_iff_toInt_le, hz, o1]; exact c1
    by_cases c2 : G ≤ 20
    · have h2 : z ≤ (20 : Int32) := by rw [Int32.le_iff_toInt_le, hz, o2]; exact c2
      have e : z = nI G.toNat := by
        apply Int32.toInt_inj.mp
        rw [hz, nI_toInt (by omega)]
        omega
      refine br_t h1 (br_t h2 ?_)
      rw [e]
      refine hp G.toNat (Or.inr ⟨by omega, by omega, (hC _ (by omega) (by omega)).mpr (by omega), fun x a b c => ?_⟩)
      have := (hC x (by omega) (by omega)).mp c
      omega
    · have h2 : ¬ z ≤ (20 : Int32) := by rw [Int32.le_iff_toInt_le, hz, o2]; exact c2
      refine br_t h1 (br_f h2 (hp 21 (Or.inl ⟨rfl, fun x a b c => ?_⟩)))
      have := (hC x (by omega) (by omega)).mp c
      omega
  · have h1 : ¬ (1 : Int32) ≤ z := by rw [Int32.le_iff_toInt_le, hz, o1]; exact c1
    refine br_f h1 (hp 1 (Or.inr ⟨by omega, by omega, (hC 1 (by omega) (by omega)).mpr (by omega), fun x a b c => ?_⟩))
    omega
theorem tx_price {post : Int32 → Prop} {w : Nat → Nat} {p k j : Nat} (hp8 : p < 256) (hw : ∀ i, W i = nI (w i)) (hl : ∀ i, w i ≤ 20) (hk : k < 2 ^ 31) (hj : j < 8) (hb : p.testBit j = true)
    (hp : ∀ (C : Nat → Prop) m, tm_Pr p S E k w j C → tm_Lst C 0 m → post (nI m)) : wpX_price post (nI p, nI k, S, E, W) (nI j) := by
  have hx : (nI j).toNatClampNeg = j := nI_clamp (by omega)
  have hv8 : vp_in (nI j) 8 := vp_in_nI hj (by decide)
  have hw' : ∀ i, i < 8 → W i = nI (w i) := fun i _ => hw i
  have iA : ∀ s, s < 256 → (tm_A (nI p) ((1 : Int32) <<< (nI j &&& 31)) 0 S E k s ↔ (tm_B p S E k s ∧ s.testBit j = true)) := fun s hs =>
    ⟨fun a => ⟨⟨a.1, a.2.2.2⟩, (tm_xm s hs j hj).mp a.2.1⟩, fun b => ⟨b.1.1, (tm_xm s hs j hj).mpr b.2, Int32.and_zero, b.1.2⟩⟩
  have iB : ∀ s, s < 256 → (tm_A (nI p) 0 ((1 : Int32) <<< (nI j &&& 31)) S E k s ↔ (tm_B p S E k s ∧ ¬ s.testBit j = true)) := fun s hs =>
    ⟨fun a => ⟨⟨a.1, a.2.2.2⟩, (tm_xb s hs j hj).mp a.2.2.1⟩, fun b => ⟨b.1.1, Int32.and_zero, (tm_xb s hs j hj).mpr b.2, b.1.2⟩⟩
  unfold wpX_price
  dsimp only
  refine tx_pres hp8 (nI j) (fun i hi e b => ?_) (fun n => absurd hb (n j hj rfl))
  refine br_f (by decide) (tx_bestSet hw' hl hk (fun r hr => ?_))
  have hr2 := tm_bs_iff iA hr
  by_cases e : r = -1
  · refine br_t e (hp (fun _ => False) 21 ?_ (Or.inl ⟨rfl, fun _ _ _ z => z⟩))
    intro v r' _ _ h
    rcases h with ⟨_, h⟩ | ⟨c, hc, e', Bc, _⟩
    · exact absurd (tm_B0 p S E k) (h 0 (by decide))
    · refine ⟨c, hc, e', ⟨fun q => ?_, False.elim⟩⟩
      rcases hr2 with ⟨_, n⟩ | ⟨c', hc', e2, _⟩
      · exact n c hc ⟨Bc, q⟩
      · exact tm_neg (by omega) (e2.symm.trans e)
  · obtain ⟨a, la, rfl, ⟨Ba, ja⟩, ma⟩ := tm_bs_some hr2 e
    refine br_f e (tx_bestSet hw' hl hk (fun r hr => ?_))
    have hr3 := tm_bs_iff iB hr
    have e3 : ¬ r = -1 := fun z => by
      rcases hr3 with ⟨_, n⟩ | ⟨c, hc, e', _⟩
      · exact n 0 (by decide) ⟨tm_B0 p S E k, by rw [Nat.zero_testBit]; decide⟩
      · exact tm_neg (by omega) (e'.symm.trans z)
    obtain ⟨b, lb, rfl, ⟨Bb, jb⟩, mb⟩ := tm_bs_some hr3 e3
    have sa := tm_sum_le hl a 8
    have sb := tm_sum_le hl b 8
    have sj := hl j
    have hd : (nI (tm_sum w b 8) - nI (tm_sum w a 8) + nI (w j)).toInt = (tm_sum w b 8 : Int) - tm_sum w a 8 + w j := by
      rw [Int32.toInt_add, pk_sub_toInt (by omega) (by omega), nI_toInt (by omega)]
      exact Int.bmod_eq_of_le (by omega) (by omega)
    have hd1 : (nI (tm_sum w b 8) - nI (tm_sum w a 8) + nI (w j) + 1).toInt = (tm_sum w b 8 : Int) - tm_sum w a 8 + w j + 1 := by
      rw [Int32.toInt_add, hd, show (1 : Int32).toInt = 1 from by decide]
      exact Int.bmod_eq_of_le (by omega) (by omega)
    have pr : tm_Pr p S E k w j (fun v => tm_sum w b 8 + w j < tm_sum w a 8 + v ∨ (tm_sum w b 8 + w j = tm_sum w a 8 + v ∧ tm_key b < tm_key a)) :=
      fun v r' _ _ h => tm_price hj ⟨la, Ba, ja, ma⟩ ⟨lb, Bb, jb, mb⟩ h
    refine tx_worthOf hw' lb ?_
    refine tx_worthOf hw' la ?_
    refine ⟨hv8, nm_r (e' := nI (tm_sum w b 8) - nI (tm_sum w a 8) + nI (w j)) (by rw [hx, hw]) ?_⟩
    refine tx_least la lb (fun q => br_f (by decide) ?_) (fun q => br_t rfl ?_)
    · refine tx_p82 _ hd (fun v h1 h2 => ?_) (fun m hm => hp _ m pr hm)
      constructor
      · intro h
        rcases h with h | h <;> omega
      · intro h
        omega
    · refine tx_p82 _ hd1 (fun v h1 h2 => ?_) (fun m hm => hp _ m pr hm)
      constructor
      · intro h
        rcases h with h | h
        · omega
        · exact absurd h.2 q
      · intro h
        omega
end
