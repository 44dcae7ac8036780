/-! the reference's private methods, each with a general post -/
section
variable {L : Int32} {H S E V D : Nat → Int32}
theorem ty_is {post : Int32 → Prop} {p : Nat} (hth : ∀ i, i < 8 → H i = nI (tm_d p i)) (v : Int32) (h1 : ∀ j, j < 8 → v = nI j → p.testBit j = true → post 1) (h0 : (∀ j, j < 8 → v = nI j → ¬ p.testBit j = true) → post 0) : wpY_is post (L, H, S, E, V, D) v := by
  rcases pk_ix v (n := 8) (by decide) with a | a | ⟨j, hj, rfl⟩
  · refine br_t a (h0 (fun j hj e => ?_))
    rw [e] at a
    exact absurd a (nI_pos (by omega))
  · have b : ¬ v < 0 := Int32.not_lt.mpr (Int32.le_trans (by decide) a)
    refine br_f b (br_t a (h0 (fun j hj e => ?_)))
    rw [e] at a
    exact absurd a (nI_ge hj (by decide))
  · have b : ¬ (8 : Int32) ≤ nI j := nI_ge (b := 8) hj (by decide)
    have hc : (nI j).toNatClampNeg = j := nI_clamp (by omega)
    refine br_f (nI_pos (by omega)) (br_f b ⟨vp_in_nI hj (by decide), ?_⟩)
    by_cases c : p.testBit j = true
    · exact br_f (by rw [hc, hth j hj, tm_d_t c]; decide) (h1 j hj rfl c)
    · refine br_t (by rw [hc, hth j hj, tm_d_f c]; decide) (h0 (fun i hi e => ?_))
      rw [nI_eq (by omega) (by omega)] at e
      rw [← e]
      exact c
theorem ty_jobs_l {post : Int32 → Prop} {p : Nat} (hp : p < 256) (hth : ∀ i, i < 8 → H i = nI (tm_d p i)) (h : post (nI p)) : ∀ d j : Nat, j + d = 8 → wY_jobs_4 post L H S E V D (d + 1) (nI (p % 2 ^ j)) (nI j) := by
  intro d
  induction d with
  | zero =>
    intro j hj
    have e : j = 8 := by omega
    subst e
    rw [show p % 2 ^ 8 = p from Nat.mod_eq_of_lt hp]
    exact br_t (by decide) h
  | succ d ih =>
    intro j hj
    have hn : ¬ (8 : Int32) ≤ nI j := nI_ge (b := 8) (by omega) (by decide)
    have hi : vp_in (nI j) 8 := vp_in_nI (by omega) (by decide)
    have hc : (nI j).toNatClampNeg = j := nI_clamp (by omega)
    have i := ih (j + 1) (by omega)
    by_cases c : p.testBit j = true
    · exact br_f hn ⟨hi, br_f (by rw [hc, hth j (by omega), tm_d_t c]; decide) (nm_r (tm_jb1 p hp j (by omega) c) (nm_r (nI_1 j) i))⟩
    · rw [← tm_jb0 p hp j (by omega) c] at i
      exact br_f hn ⟨hi, br_t (by rw [hc, hth j (by omega), tm_d_f c]; decide) (nm_r Int32.or_zero (nm_r (nI_1 j) i))⟩
theorem ty_jobs {post : Int32 → Prop} {p : Nat} (hp : p < 256) (hth : ∀ i, i < 8 → H i = nI (tm_d p i)) (h : post (nI p)) : wpY_jobs post (L, H, S, E, V, D) := by
  have i := ty_jobs_l (L := L) (S := S) (E := E) (V := V) (D := D) hp hth h 8 0 rfl
  rw [show p % 2 ^ 0 = 0 from Nat.mod_one p] at i
  exact ⟨9, i⟩
theorem ty_at_l {post : Int32 → Prop} {s : Nat} (hs : s < 256) (t : Int32) (hp : post (nI (tm_cnt S E s t 8))) : ∀ d j : Nat, j + d = 8 → wY_at_5 post (nI s) t L H S E V D (d + 1) (nI (tm_cnt S E s t j)) (nI j) := by
  intro d
  induction d with
  | zero =>
    intro j hj
    have e : j = 8 := by omega
    subst e
    exact br_t (by decide) hp
  | succ d ih =>
    intro j hj
    have h : ¬ (8 : Int32) ≤ nI j := nI_ge (b := 8) (by omega) (by decide)
    have hi : vp_in (nI j) 8 := vp_in_nI (by omega) (by decide)
    have hc : (nI j).toNatClampNeg = j := nI_clamp (by omega)
    have i := ih (j + 1) (by omega)
    have y := tm_yb s hs j (by omega)
    by_cases b : s.testBit j = true
    · have hb : ((nI s >>> (nI j &&& 31)) &&& 1) = 1 := by rw [y, tm_d_t b]; decide
      by_cases c1 : t < S j
      · rw [tm_cnt_n (fun z => Int32.not_lt.mpr z.2.1 c1)] at i
        exact br_f h (br_t hb ⟨hi, br_t (by rw [hc]; exact c1) (nm_r (Int32.add_zero _) (nm_r (nI_1 j) i))⟩)
      · by_cases c2 : E j ≤ t
        · rw [tm_cnt_n (fun z => Int32.not_le.mpr z.2.2 c2)] at i
          exact br_f h (br_t hb ⟨hi, br_f (by rw [hc]; exact c1) ⟨hi, br_t (by rw [hc]; exact c2) (nm_r (Int32.add_zero _) (nm_r (nI_1 j) i))⟩⟩)
        · rw [tm_cnt_y ⟨b, Int32.not_lt.mp c1, Int32.not_le.mp c2⟩] at i
          exact br_f h (br_t hb ⟨hi, br_f (by rw [hc]; exact c1) ⟨hi, br_f (by rw [hc]; exact c2) (nm_r (nI_1 _) (nm_r (nI_1 j) i))⟩⟩)
    · have hb : ¬ ((nI s >>> (nI j &&& 31)) &&& 1) = 1 := by rw [y, tm_d_f b]; decide
      rw [tm_cnt_n (fun z => b z.1)] at i
      exact br_f h (br_f hb (nm_r (Int32.add_zero _) (nm_r (nI_1 j) i)))
theorem ty_at {post : Int32 → Prop} {s : Nat} (hs : s < 256) (t : Int32) (hp : post (nI (tm_cnt S E s t 8))) : wpY_at post (L, H, S, E, V, D) (nI s) t := ⟨9, ty_at_l hs t hp 8 0 rfl⟩
theorem ty_sum_l {post : Int32 → Prop} {w : Nat → Nat} {s : Nat} (hw : ∀ i, i < 8 → V i = nI (w i)) (hs : s < 256) (hp : post (nI (tm_sum w s 8))) : ∀ d j : Nat, j + d = 8 → wY_sum_4 post (nI s) L H S E V D (d + 1) (nI (tm_sum w s j)) (nI j) := by
  intro d
  induction d with
  | zero =>
    intro j hj
    have e : j = 8 := by omega
    subst e
    exact br_t (by decide) hp
  | succ d ih =>
    intro j hj
    have h : ¬ (8 : Int32) ≤ nI j := nI_ge (b := 8) (by omega) (by decide)
    have hi : vp_in (nI j) 8 := vp_in_nI (by omega) (by decide)
    have hc : (nI j).toNatClampNeg = j := nI_clamp (by omega)
    have i := ih (j + 1) (by omega)
    have y := tm_yb s hs j (by omega)
    by_cases b : s.testBit j = true
    · have hb : ((nI s >>> (nI j &&& 31)) &&& 1) = 1 := by rw [y, tm_d_t b]; decide
      rw [tm_sum_y b] at i
      exact br_f h (br_t hb ⟨hi, nm_r (by rw [hc, hw j (by omega), nI_add]) (nm_r (nI_1 j) i)⟩)
    · have hb : ¬ ((nI s >>> (nI j &&& 31)) &&& 1) = 1 := by rw [y, tm_d_f b]; decide
      rw [tm_sum_n b] at i
      exact br_f h (br_f hb (nm_r (Int32.add_zero _) (nm_r (nI_1 j) i)))
theorem ty_sum {post : Int32 → Prop} {w : Nat → Nat} {s : Nat} (hw : ∀ i, i < 8 → V i = nI (w i)) (hs : s < 256) (hp : post (nI (tm_sum w s 8))) : wpY_sum post (L, H, S, E, V, D) (nI s) := ⟨9, ty_sum_l hw hs hp 8 0 rfl⟩
theorem ty_bef_l {post : Int32 → Prop} {a b : Nat} (ha : a < 256) (hb : b < 256) (h1 : tm_key b < tm_key a → post 1) (h0 : ¬ tm_key b < tm_key a → post 0) : ∀ d j : Nat, j + d = 8 → (∀ i, i < j → tm_d a i = tm_d b i) → wY_before_34 post (nI a) (nI b) L H S E V D (d + 1) (nI j) := by
  intro d
  induction d with
  | zero =>
    intro j hj e
    have z : j = 8 := by omega
    subst z
    have k := tm_keq e
    exact br_t (by decide) (h0 (by omega))
  | succ d ih =>
    intro j hj e
    have h : ¬ (8 : Int32) ≤ nI j := nI_ge (b := 8) (by omega) (by decide)
    have ya := tm_yb a ha j (by omega)
    have yb := tm_yb b hb j (by omega)
    have da := tm_d1 a j
    have db := tm_d1 b j
    refine br_f h ?_
    by_cases q : tm_d a j = tm_d b j
    · exact br_t (by rw [ya, yb, q]) (nm_r (nI_1 j) (ih (j + 1) (by omega) (lt_s e q)))
    · have k := tm_kl (by omega) e q
      refine br_f (by rw [ya, yb, nI_eq (by omega) (by omega)]; exact q) ?_
      by_cases o : tm_d a j = 1
      · exact br_t (by rw [ya, o]; decide) (h1 (k.mpr o))
      · exact br_f (by rw [ya, show tm_d a j = 0 by omega]; decide) (h0 (fun z => o (k.mp z)))
theorem ty_before {post : Int32 → Prop} {w : Nat → Nat} {a b : Nat} (hw : ∀ i, i < 8 → V i = nI (w i)) (hl : ∀ i, w i ≤ 20) (ha : a < 256) (hb : b < 256) (h1 : tm_sc w b < tm_sc w a → post 1) (h0 : ¬ tm_sc w b < tm_sc w a → post 0) : wpY_before post (L, H, S, E, V, D) (nI a) (nI b) := by
  have la := tm_sum_le hl a 8
  have lb := tm_sum_le hl b 8
  unfold wpY_before
  dsimp only
  refine ty_sum hw ha ?_
  refine ty_sum hw hb ?_
  refine pk_eq (tm_sum w a 8) (tm_sum w b 8) (fun c => ⟨9, ?_⟩) (fun c => ?_)
  · refine ty_bef_l ha hb (fun q => h1 (tm_sc_lt.mpr (Or.inr ⟨c, q⟩))) (fun q => h0 (fun y => ?_)) 8 0 rfl (fun i hi => absurd hi (Nat.not_lt_zero i))
    rcases tm_sc_lt.mp y with y | y
    · omega
    · exact q y.2
  · refine pk_le (tm_sum w a 8) (tm_sum w b 8) (fun c2 => h0 (fun y => ?_)) (fun c2 => h1 (tm_sc_lt.mpr (Or.inl c2)))
    rcases tm_sc_lt.mp y with y | y
    · omega
    · exact c y.1
end
/-- the sets of present jobs that fit k tracks -/
def tm_B (p : Nat) (S E : Nat → Int32) (k : Nat) (s : Nat) : Prop := (nI s &&& (nI p ^^^ (-1))) = 0 ∧ tm_most S E s 16 ≤ k
theorem tm_B0 (p : Nat) (S E : Nat → Int32) (k : Nat) : tm_B p S E k 0 := ⟨Int32.zero_and, by rw [tm_most_e]; exact Nat.zero_le k⟩
/-- what work() leaves in load -/
def tm_Ld (p : Nat) (S E D : Nat → Int32) : Prop := ∀ s, s < 256 → (nI s &&& (nI p ^^^ (-1))) = 0 → D s = nI (tm_most S E s 16)
section
variable {L : Int32} {H S E V D : Nat → Int32}
theorem ty_best_l {post : Int32 → Prop} {w : Nat → Nat} {p k : Nat} (hD : tm_Ld p S E D) (hw : ∀ i, i < 8 → V i = nI (w i)) (hl : ∀ i, w i ≤ 20) (hk : k < 2 ^ 31)
    (hp : ∀ r, tm_BS (tm_B p S E k) (tm_sc w) 256 r → post r) : ∀ d i c : Nat, i + d = 256 → c < i → tm_B p S E k c → (∀ s, s < i → tm_B p S E k s → tm_sc w s ≤ tm_sc w c) → wY_best_10 post (nI k) (nI p) L H S E V D (d + 1) (nI c) (nI i) := by
  intro d
  induction d with
  | zero =>
    intro i c hi hc ac m
    have e : i = 256 := by omega
    subst e
    exact br_t (by decide) (hp _ (Or.inr ⟨c, hc, rfl, ac, m⟩))
  | succ d ih =>
    intro i c hi hc ac m
    have hn : ¬ (256 : Int32) ≤ nI i := nI_ge (b := 256) (by omega) (by decide)
    have hx : (nI i).toNatClampNeg = i := nI_clamp (by omega)
    have l2 := tm_most_le S E i 16
    have keep : (tm_B p S E k i → tm_sc w i ≤ tm_sc w c) → wY_best_10 post (nI k) (nI p) L H S E V D (d + 1) (nI c) (nI (i + 1)) := by
      intro z
      refine ih (i + 1) c (by omega) (by omega) ac (fun s hs a => ?_)
      rcases Nat.lt_or_ge s i with y | y
      · exact m s y a
      · have e : s = i := by omega
        subst e
        exact z a
    refine br_f hn ?_
    by_cases c1 : (nI i &&& (nI p ^^^ (-1))) = 0
    · refine br_t c1 ⟨vp_in_nI (by omega) (by decide), ?_⟩
      refine pk_lt k (tm_most S E i 16) (fun q => nm_r (nI_1 i) (keep (fun a => ?_))) (fun q => ?_) rfl (by rw [hx]; exact hD i (by omega) c1)
      · have := a.2
        omega
      · refine ty_before hw hl (by omega) (by omega) (fun y => ?_) (fun y => ?_)
        · refine br_f (by decide) (nm_r (nI_1 i) ?_)
          refine ih (i + 1) i (by omega) (by omega) ⟨c1, q⟩ (fun s hs a => ?_)
          rcases Nat.lt_or_ge s i with z | z
          · exact Nat.le_of_lt (Nat.lt_of_le_of_lt (m s z a) y)
          · rw [show s = i by omega]
            exact Nat.le_refl _
        · exact br_t rfl (nm_r (nI_1 i) (keep (fun _ => Nat.le_of_not_lt y)))
    · exact br_f c1 (nm_r (nI_1 i) (keep (fun a => absurd a.1 c1)))
theorem ty_best {post : Int32 → Prop} {w : Nat → Nat} {p k : Nat} (hp8 : p < 256) (hth : ∀ i, i < 8 → H i = nI (tm_d p i)) (hD : tm_Ld p S E D) (hw : ∀ i, i < 8 → V i = nI (w i)) (hl : ∀ i, w i ≤ 20) (hk : k < 2 ^ 31)
    (hp : ∀ r, tm_BS (tm_B p S E k) (tm_sc w) 256 r → post r) : wpY_best post (L, H, S, E, V, D) (nI k) := by
  unfold wpY_best
  dsimp only
  refine ty_jobs hp8 hth ⟨256, ?_⟩
  refine ty_best_l hD hw hl hk hp 255 1 0 rfl (by decide) (tm_B0 p S E k) (fun s hs a => ?_)
  rw [show s = 0 by omega]
  exact Nat.le_refl _
theorem ty_w23 {post : SY → Prop} {J : Int32 → (Nat → Int32) → (Nat → Int32) → (Nat → Int32) → (Nat → Int32) → (Nat → Int32) → Prop} {p s : Nat} (hs : s < 256) (c1 : (nI s &&& (nI p ^^^ (-1))) = 0) :
    ∀ (d t : Nat) (D : Nat → Int32), t + d = 16 → D s = nI (tm_most S E s t) → (∀ D', (∀ i, i ≠ s → D' i = D i) → D' s = nI (tm_most S E s 16) → J (nI (s + 1)) H S E V D') → wY_work_23 post J (nI p) (nI s) L (d + 1) (nI t) H S E V D := by
  intro d
  induction d with
  | zero =>
    intro t D ht hD g
    have e : t = 16 := by omega
    subst e
    exact br_t (by decide) (nm_r (nI_1 s) (g D (fun _ _ => rfl) hD))
  | succ d ih =>
    intro t D ht hD g
    have hn : ¬ (16 : Int32) ≤ nI t := nI_ge (b := 16) (by omega) (by decide)
    have hx : (nI s).toNatClampNeg = s := nI_clamp (by omega)
    have hv : vp_in (nI s) 256 := vp_in_nI hs (by decide)
    have l1 := tm_cnt_le S E s (nI t) 8
    have l2 := tm_most_le S E s t
    have up : ∀ x : Int32, x = nI (tm_most S E s (t + 1)) → wY_work_23 post J (nI p) (nI s) L (d + 1) (nI (t + 1)) H S E V (upd D (nI s).toNatClampNeg x) := by
      intro x ex
      rw [hx]
      refine ih (t + 1) (upd D s x) (by omega) (by rw [pk_us, ex]) (fun D' h1 h2 => g D' (fun i hi => ?_) h2)
      rw [h1 i hi, pk_un hi]
    refine br_f hn (br_t c1 (ty_at hs (nI t) ⟨hv, ?_⟩))
    by_cases c : tm_most S E s t < tm_cnt S E s (nI t) 8
    · refine br_f (by rw [hx, hD]; exact nI_ge c (by omega)) ⟨hv, nm_e (nm_r (nI_1 t) (up _ ?_))⟩
      rw [tm_most_y c]
    · refine br_t (by rw [hx, hD]; exact nI_le (by omega) (by omega)) ⟨hv, hv, nm_e (nm_r (nI_1 t) (up _ ?_))⟩
      rw [tm_most_n c, hx, hD]
theorem ty_w7 {post : SY → Prop} {p : Nat} (g : ∀ D, tm_Ld p S E D → post (L, H, S, E, V, D)) :
    ∀ (d s : Nat) (D : Nat → Int32), s + d = 256 → (∀ i, i < s → (nI i &&& (nI p ^^^ (-1))) = 0 → D i = nI (tm_most S E i 16)) → wY_work_7 post (nI p) L (d + 1) (nI s) H S E V D := by
  intro d
  induction d with
  | zero =>
    intro s D hs hD
    have e : s = 256 := by omega
    subst e
    exact br_t (by decide) (g D hD)
  | succ d ih =>
    intro s D hs hD
    have hn : ¬ (256 : Int32) ≤ nI s := nI_ge (b := 256) (by omega) (by decide)
    have hx : (nI s).toNatClampNeg = s := nI_clamp (by omega)
    have hv : vp_in (nI s) 256 := vp_in_nI (by omega) (by decide)
    refine br_f hn ⟨hv, nm_e ?_⟩
    rw [hx]
    by_cases c1 : (nI s &&& (nI p ^^^ (-1))) = 0
    · refine ⟨17, ty_w23 (by omega) c1 16 0 (upd D s 0) rfl (by rw [pk_us]; rfl) (fun D' h1 h2 => ?_)⟩
      refine ih (s + 1) D' (by omega) (fun i hi a => ?_)
      rcases Nat.lt_or_ge i s with z | z
      · rw [h1 i (by omega), pk_un (by omega)]
        exact hD i z a
      · rw [show i = s by omega]
        exact h2
    · refine ⟨1, br_f (by decide) (br_f c1 (nm_r (nI_1 s) ?_))⟩
      refine ih (s + 1) _ (by omega) (fun i hi a => ?_)
      rcases Nat.lt_or_ge i s with z | z
      · rw [pk_un (by omega)]
        exact hD i z a
      · exact absurd ((show i = s by omega) ▸ a) c1
theorem ty_work {post : SY → Prop} {p : Nat} (hp : p < 256) (hth : ∀ i, i < 8 → H i = nI (tm_d p i)) (g : ∀ D', tm_Ld p S E D' → post (L, H, S, E, V, D')) : wpY_work post (L, H, S, E, V, D) := by
  unfold wpY_work
  dsimp only
  refine ty_jobs hp hth ⟨257, ?_⟩
  exact ty_w7 g 256 0 D rfl (fun i hi => absurd hi (Nat.not_lt_zero i))
end
