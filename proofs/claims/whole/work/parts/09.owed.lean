/-! what is owed -/
section
variable {H S E V D : Nat → Int32}
theorem ty_chosen {post : Int32 → SY → Prop} {w : Nat → Nat} {p k : Nat} (hp8 : p < 256) (hth : ∀ i, i < 8 → H i = nI (tm_d p i)) (hw : ∀ i, i < 8 → V i = nI (w i)) (hl : ∀ i, w i ≤ 20) (hk : k < 2 ^ 31)
    (hp : ∀ r D', tm_BS (tm_B p S E k) (tm_sc w) 256 r → post r (nI k, H, S, E, V, D')) : wpY_chosen post (nI k, H, S, E, V, D) := by
  unfold wpY_chosen
  dsimp only
  refine ty_work hp8 hth (fun D' hD => ?_)
  dsimp only
  exact ty_best hp8 hth hD hw hl hk (fun r hr => hp r D' hr)
end
theorem i_up {k : Nat} {u : SX} {v : SY} (h : i_Rel k u v) : i_Rel (k + 4) u v := h
theorem i_vc0 (k0 : Int32) : wpX_init (fun u => wpY_init (fun v => i_Rel 1 u v) k0) k0 := by
  refine br_c (fun c1 => br_c (fun c2 => ?_) (fun c2 => ?_)) (fun c1 => ?_)
  · obtain ⟨n, hn, rfl⟩ := nI_of2 (x := k0) (M := 4) (n := 4) (by decide) (Int32.not_lt.mpr c1) c2
    exact br_t c1 (br_t c2 (tm_start hn))
  · exact br_t c1 (br_f c2 (tm_start (n := 4) (by decide)))
  · exact br_f c1 (tm_start (n := 0) (by decide))
theorem i_vc_bring {k : Nat} {u : SX} {v : SY} (I : i_Rel k u v) (hk : k + 4 ≤ 2049) (v1 : Int32) (v2 : Int32) (v3 : Int32) : wpX_bring (fun r u' => wpY_bring (fun r' v' => r' = r ∧ i_Rel (k + 4) u' v') v v1 v2 v3) u v1 v2 v3 := by
  obtain ⟨p, kk, w, S, E, W, H, D, rfl, rfl, ok⟩ := I
  have hp := ok.1
  have hH := ok.2.2.1
  unfold wpX_bring
  dsimp only
  refine tx_span (fun sp => br_f (by decide) ?_) (fun sp => br_t rfl ?_)
  · refine tx_worth (fun wo => br_f (by decide) ?_) (fun wo => br_t rfl ?_)
    · refine tx_free hp (fun j hj => ?_)
      have q : tm_Sp v1 v2 ∧ tm_Wo v3 := ⟨sp, wo⟩
      by_cases z : j = 8
      · subst z
        exact br_t (by decide) (ty_bring (j0 := 8) hH (fun n => absurd q n) (fun _ => hj) (fun _ _ => ⟨rfl, tm_rel D ok⟩) (fun _ n => absurd n (by decide)))
      · have h8 : j < 8 := by
          have := hj.1
          omega
        have hi : vp_in (nI j) 8 := vp_in_nI h8 (by decide)
        have hc : (nI j).toNatClampNeg = j := nI_clamp (by omega)
        obtain ⟨y, hy, rfl⟩ := tm_wo wo
        refine br_f (fun e => z ((nI_eq (a := j) (b := 8) (by omega) (by omega)).mp e)) ?_
        refine ⟨hi, nm_r (by rw [hc]) ⟨hi, nm_r (by rw [hc]) ⟨hi, nm_r (by rw [hc]) (nm_r (tm_or p hp j h8).1 ?_)⟩⟩⟩
        refine ty_bring (j0 := j) hH (fun n => absurd q n) (fun _ => hj) (fun _ n => absurd n z) (fun _ _ => ⟨rfl, ?_⟩)
        exact tm_rel D (tm_ok_in h8 (tm_ok_w (tm_ok_s ok sp) hy))
    · exact ty_bring (j0 := 8) hH (fun _ => ⟨rfl, tm_rel D ok⟩) (fun q => absurd q.2 wo) (fun q => absurd q.2 wo) (fun q => absurd q.2 wo)
  · exact ty_bring (j0 := 8) hH (fun _ => ⟨rfl, tm_rel D ok⟩) (fun q => absurd q.1 sp) (fun q => absurd q.1 sp) (fun q => absurd q.1 sp)
theorem i_vc_take {k : Nat} {u : SX} {v : SY} (I : i_Rel k u v) (hk : k + 4 ≤ 2049) (v1 : Int32) : wpX_take (fun r u' => wpY_take (fun r' v' => r' = r ∧ i_Rel (k + 4) u' v') v v1) u v1 := by
  obtain ⟨p, kk, w, S, E, W, H, D, rfl, rfl, ok⟩ := I
  have hp := ok.1
  have hH := ok.2.2.1
  unfold wpX_take
  dsimp only
  refine tx_pres hp v1 (fun j hj e b => ?_) (fun n => br_t rfl ?_)
  · subst e
    refine br_f (by decide) (nm_r (tm_and p hp j hj).1 ?_)
    unfold wpY_take
    dsimp only
    refine ty_is hH (nI j) (fun i hi e' b' => ?_) (fun n => absurd b (n j hj rfl))
    exact br_f (by decide) ⟨vp_in_nI hj (by decide), nm_r (by rw [nI_clamp (by omega), tm_v0]) ⟨rfl, tm_rel D (tm_ok_out hj ok)⟩⟩
  · unfold wpY_take
    dsimp only
    exact ty_is hH v1 (fun j hj e b => absurd b (n j hj e)) (fun _ => br_t rfl ⟨rfl, tm_rel D ok⟩)
theorem i_vc_revalue {k : Nat} {u : SX} {v : SY} (I : i_Rel k u v) (hk : k + 4 ≤ 2049) (v1 : Int32) (v2 : Int32) : wpX_revalue (fun r u' => wpY_revalue (fun r' v' => r' = r ∧ i_Rel (k + 4) u' v') v v1 v2) u v1 v2 := by
  obtain ⟨p, kk, w, S, E, W, H, D, rfl, rfl, ok⟩ := I
  have hp := ok.1
  have hH := ok.2.2.1
  unfold wpX_revalue
  dsimp only
  refine tx_pres hp v1 (fun j hj e b => br_f (by decide) ?_) (fun n => br_t rfl ?_)
  · subst e
    have hi : vp_in (nI j) 8 := vp_in_nI hj (by decide)
    have hc : (nI j).toNatClampNeg = j := nI_clamp (by omega)
    refine tx_worth (fun wo => br_f (by decide) ?_) (fun wo => br_t rfl ?_)
    · refine ⟨hi, nm_r (by rw [hc]) ?_⟩
      unfold wpY_revalue
      dsimp only
      refine ty_is hH (nI j) (fun i hi' e' b' => br_f (by decide) ?_) (fun n => absurd b (n j hj rfl))
      refine br_f wo.1 (br_t (Int32.not_lt.mp wo.2) ⟨hi, nm_r (by rw [hc]) ⟨rfl, ?_⟩⟩)
      obtain ⟨y, hy, rfl⟩ := tm_wo wo
      exact tm_rel D (tm_ok_w ok hy)
    · unfold wpY_revalue
      dsimp only
      refine ty_is hH (nI j) (fun i hi' e' b' => br_f (by decide) ?_) (fun n => absurd b (n j hj rfl))
      exact br_c (fun _ => ⟨rfl, tm_rel D ok⟩) (fun c1 => br_c (fun c2 => absurd ⟨c1, Int32.not_lt.mpr c2⟩ wo) (fun _ => ⟨rfl, tm_rel D ok⟩))
  · unfold wpY_revalue
    dsimp only
    exact ty_is hH v1 (fun j hj e b => absurd b (n j hj e)) (fun _ => br_t rfl ⟨rfl, tm_rel D ok⟩)
theorem i_vc_setTracks {k : Nat} {u : SX} {v : SY} (I : i_Rel k u v) (hk : k + 4 ≤ 2049) (v1 : Int32) : wpX_setTracks (fun r u' => wpY_setTracks (fun r' v' => r' = r ∧ i_Rel (k + 4) u' v') v v1) u v1 := by
  obtain ⟨p, kk, w, S, E, W, H, D, rfl, rfl, ok⟩ := I
  refine br_c (fun c1 => ?_) (fun c1 => br_c (fun c2 => ?_) (fun c2 => ?_))
  · exact br_t c1 ⟨rfl, tm_rel D ok⟩
  · obtain ⟨n, hn, rfl⟩ := nI_of2 (x := v1) (M := 4) (n := 4) (by decide) c1 c2
    exact br_f c1 (br_t c2 ⟨rfl, tm_rel D ⟨ok.1, hn, ok.2.2⟩⟩)
  · exact br_f c1 (br_f c2 ⟨rfl, tm_rel D ok⟩)
theorem i_vc_tracks {k : Nat} {u : SX} {v : SY} (I : i_Rel k u v) (hk : k + 4 ≤ 2049) : wpX_tracks (fun r => wpY_tracks (fun r' => r' = r ∧ i_Rel (k + 4) u v) v) u := by
  obtain ⟨p, kk, w, S, E, W, H, D, rfl, rfl, ok⟩ := I
  exact ⟨rfl, tm_rel D ok⟩
theorem i_vc_jobs {k : Nat} {u : SX} {v : SY} (I : i_Rel k u v) (hk : k + 4 ≤ 2049) : wpX_jobs (fun r => wpY_jobs (fun r' => r' = r ∧ i_Rel (k + 4) u v) v) u := by
  obtain ⟨p, kk, w, S, E, W, H, D, rfl, rfl, ok⟩ := I
  exact ty_jobs ok.1 ok.2.2.1 ⟨rfl, tm_rel D ok⟩
theorem i_vc_chosen {k : Nat} {u : SX} {v : SY} (I : i_Rel k u v) (hk : k + 4 ≤ 2049) : wpX_chosen (fun r => wpY_chosen (fun r' v' => r' = r ∧ i_Rel (k + 4) u v') v) u := by
  obtain ⟨p, kk, w, S, E, W, H, D, rfl, rfl, ok⟩ := I
  obtain ⟨hp, hkk, hH, hW, hl, hS⟩ := id ok
  unfold wpX_chosen
  dsimp only
  refine tx_bestSet (fun i _ => hW i) hl (by omega) (fun r hr => ?_)
  have h := tm_bs_iff (fun s _ => tm_A00) hr
  exact ty_chosen hp hH (fun i _ => hW i) hl (by omega) (fun r' D' hr' => ⟨tm_bs_one (fun a b ha hb => tm_sc_inj ha hb) h hr', tm_rel D' ok⟩)
theorem i_vc_total {k : Nat} {u : SX} {v : SY} (I : i_Rel k u v) (hk : k + 4 ≤ 2049) : wpX_total (fun r => wpY_total (fun r' v' => r' = r ∧ i_Rel (k + 4) u v') v) u := by
  obtain ⟨p, kk, w, S, E, W, H, D, rfl, rfl, ok⟩ := I
  obtain ⟨hp, hkk, hH, hW, hl, hS⟩ := id ok
  unfold wpX_total
  dsimp only
  refine tx_bestWorth (fun i _ => hW i) hl (by omega) (fun r hr => ?_)
  have h := tm_mx_iff (fun s _ => tm_A00) hr
  unfold wpY_total
  dsimp only
  refine ty_chosen hp hH (fun i _ => hW i) hl (by omega) (fun r' D' hr' => ?_)
  obtain ⟨c, hc, rfl, mx⟩ := tm_bs_mx hr'
  dsimp only
  exact ty_sum (fun i _ => hW i) hc ⟨tm_mx_one h mx, tm_rel D' ok⟩
theorem i_vc_fits {k : Nat} {u : SX} {v : SY} (I : i_Rel k u v) (hk : k + 4 ≤ 2049) (v1 : Int32) : wpX_fits (fun r => wpY_fits (fun r' v' => r' = r ∧ i_Rel (k + 4) u v') v v1) u v1 := by
  obtain ⟨p, kk, w, S, E, W, H, D, rfl, rfl, ok⟩ := I
  obtain ⟨hp, hkk, hH, hW, hl, hS⟩ := id ok
  by_cases c : (v1 &&& (nI p ^^^ (-1))) = 0
  · obtain ⟨s, hs, rfl⟩ := tm_sub_lt hp c
    have lm := tm_most_le S E s 16
    have e255 := tm_255 s hs
    have hx : (nI s).toNatClampNeg = s := nI_clamp (by omega)
    refine br_t c (tx_most hs ?_)
    by_cases q : kk < tm_most S E s 16
    · refine br_t (nI_lt q (by omega)) ?_
      unfold wpY_fits
      dsimp only
      refine ty_work hp hH (fun D' hD => ?_)
      refine ty_jobs hp hH (br_t c ?_)
      dsimp only
      rw [e255, hx, hD s hs c]
      exact ⟨vp_in_nI hs (by decide), br_t (nI_lt q (by omega)) ⟨rfl, tm_rel D' ok⟩⟩
    · refine br_f (nI_nlt (by omega) (by omega)) ?_
      unfold wpY_fits
      dsimp only
      refine ty_work hp hH (fun D' hD => ?_)
      refine ty_jobs hp hH (br_t c ?_)
      dsimp only
      rw [e255, hx, hD s hs c]
      exact ⟨vp_in_nI hs (by decide), br_f (nI_nlt (by omega) (by omega)) ⟨rfl, tm_rel D' ok⟩⟩
  · refine br_f c ?_
    unfold wpY_fits
    dsimp only
    refine ty_work hp hH (fun D' hD => ?_)
    exact ty_jobs hp hH (br_f c ⟨rfl, tm_rel D' ok⟩)
theorem i_vc_tracksFor {k : Nat} {u : SX} {v : SY} (I : i_Rel k u v) (hk : k + 4 ≤ 2049) (v1 : Int32) : wpX_tracksFor (fun r => wpY_tracksFor (fun r' v' => r' = r ∧ i_Rel (k + 4) u v') v v1) u v1 := by
  obtain ⟨p, kk, w, S, E, W, H, D, rfl, rfl, ok⟩ := I
  obtain ⟨hp, hkk, hH, hW, hl, hS⟩ := id ok
  obtain ⟨s, hs, e⟩ := tm_lt v1 hp
  have hx : (nI s).toNatClampNeg = s := nI_clamp (by omega)
  have sub : (nI s &&& (nI p ^^^ (-1))) = 0 := by
    rw [← e]
    exact tm_sub_and v1 (nI p)
  unfold wpX_tracksFor
  dsimp only
  rw [e]
  refine tx_most hs ?_
  unfold wpY_tracksFor
  dsimp only
  refine ty_work hp hH (fun D' hD => ?_)
  refine ty_jobs hp hH ?_
  dsimp only
  rw [e, hx, hD s hs sub]
  exact ⟨vp_in_nI hs (by decide), rfl, tm_rel D' ok⟩
theorem i_vc_price {k : Nat} {u : SX} {v : SY} (I : i_Rel k u v) (hk : k + 4 ≤ 2049) (v1 : Int32) : wpX_price (fun r => wpY_price (fun r' v' => r' = r ∧ i_Rel (k + 4) u v') v v1) u v1 := by
  obtain ⟨p, kk, w, S, E, W, H, D, rfl, rfl, ok⟩ := I
  obtain ⟨hp, hkk, hH, hW, hl, hS⟩ := id ok
  by_cases c : ∃ j, j < 8 ∧ v1 = nI j ∧ p.testBit j = true
  · obtain ⟨j, hj, rfl, b⟩ := c
    refine tx_price hp hW hl (by omega) hj b (fun C m pr hm => ?_)
    exact ty_price hp hH hW hl (by omega) hj b pr (fun m' D' hm' => ⟨congrArg nI (tm_lst_one hm hm'), tm_rel D' ok⟩)
  · unfold wpX_price
    dsimp only
    refine tx_pres hp v1 (fun j hj e b => absurd ⟨j, hj, e, b⟩ c) (fun n => br_t rfl ?_)
    unfold wpY_price
    dsimp only
    exact ty_is hH v1 (fun j hj e b => absurd ⟨j, hj, e, b⟩ c) (fun _ => br_t rfl ⟨rfl, tm_rel D ok⟩)
theorem i_vc_totalWith {k : Nat} {u : SX} {v : SY} (I : i_Rel k u v) (hk : k + 4 ≤ 2049) (v1 : Int32) (v2 : Int32) : wpX_totalWith (fun r => wpY_totalWith (fun r' v' => r' = r ∧ i_Rel (k + 4) u v') v v1 v2) u v1 v2 := by
  obtain ⟨p, kk, w, S, E, W, H, D, rfl, rfl, ok⟩ := I
  obtain ⟨hp, hkk, hH, hW, hl, hS⟩ := id ok
  unfold wpX_totalWith
  dsimp only
  refine tx_bestWorth (fun i _ => hW i) hl (by omega) (fun r hr => ?_)
  exact ty_totalWith hp hH (fun i _ => hW i) hl (by omega) (fun r' D' hr' => ⟨tm_mx_one hr hr', tm_rel D' ok⟩)
theorem i_vc_gain {k : Nat} {u : SX} {v : SY} (I : i_Rel k u v) (hk : k + 4 ≤ 2049) : wpX_gain (fun r => wpY_gain (fun r' v' => r' = r ∧ i_Rel (k + 4) u v') v) u := by
  obtain ⟨p, kk, w, S, E, W, H, D, rfl, rfl, ok⟩ := I
  obtain ⟨hp, hkk, hH, hW, hl, hS⟩ := id ok
  have hw : ∀ i, i < 8 → W i = nI (w i) := fun i _ => hW i
  unfold wpX_gain
  dsimp only
  rw [nI_1 kk]
  refine tx_bestWorth hw hl (by omega) (fun r1 h1 => ?_)
  refine tx_bestWorth hw hl (by omega) (fun r2 h2 => ?_)
  have g1 := tm_mx_iff (fun s _ => tm_A00) h1
  have g2 := tm_mx_iff (fun s _ => tm_A00) h2
  unfold wpY_gain
  dsimp only
  refine ty_work hp hH (fun D' hD => ?_)
  dsimp only
  rw [nI_1 kk]
  refine ty_best hp hH hD hw hl (by omega) (fun r hr => ?_)
  refine ty_best hp hH hD hw hl (by omega) (fun r' hr' => ?_)
  obtain ⟨c, hc, rfl, m1⟩ := tm_bs_mx hr
  obtain ⟨c', hc', rfl, m2⟩ := tm_bs_mx hr'
  refine ty_sum hw hc' ?_
  refine ty_sum hw hc ?_
  exact ⟨by rw [tm_mx_one g1 m2, tm_mx_one g2 m1], tm_rel D' ok⟩
theorem i_vc_loss {k : Nat} {u : SX} {v : SY} (I : i_Rel k u v) (hk : k + 4 ≤ 2049) : wpX_loss (fun r => wpY_loss (fun r' v' => r' = r ∧ i_Rel (k + 4) u v') v) u := by
  obtain ⟨p, kk, w, S, E, W, H, D, rfl, rfl, ok⟩ := I
  obtain ⟨hp, hkk, hH, hW, hl, hS⟩ := id ok
  have hw : ∀ i, i < 8 → W i = nI (w i) := fun i _ => hW i
  cases kk with
  | zero => exact br_t rfl (br_t rfl ⟨rfl, tm_rel D ok⟩)
  | succ m =>
    have hne : ¬ nI (m + 1) = 0 := nI_ne0 (by omega) (by omega)
    unfold wpX_loss
    dsimp only
    rw [nI_pred m]
    refine br_f hne ?_
    refine tx_bestWorth hw hl (by omega) (fun r1 h1 => ?_)
    refine tx_bestWorth hw hl (by omega) (fun r2 h2 => ?_)
    have g1 := tm_mx_iff (fun s _ => tm_A00) h1
    have g2 := tm_mx_iff (fun s _ => tm_A00) h2
    unfold wpY_loss
    dsimp only
    refine br_f hne ?_
    refine ty_work hp hH (fun D' hD => ?_)
    dsimp only
    rw [nI_pred m]
    refine ty_best hp hH hD hw hl (by omega) (fun r hr => ?_)
    refine ty_best hp hH hD hw hl (by omega) (fun r' hr' => ?_)
    obtain ⟨c, hc, rfl, m1⟩ := tm_bs_mx hr
    obtain ⟨c', hc', rfl, m2⟩ := tm_bs_mx hr'
    refine ty_sum hw hc ?_
    refine ty_sum hw hc' ?_
    exact ⟨by rw [tm_mx_one g1 m1, tm_mx_one g2 m2], tm_rel D' ok⟩
theorem i_vc_busy {k : Nat} {u : SX} {v : SY} (I : i_Rel k u v) (hk : k + 4 ≤ 2049) (v1 : Int32) : wpX_busy (fun r => wpY_busy (fun r' v' => r' = r ∧ i_Rel (k + 4) u v') v v1) u v1 := by
  obtain ⟨p, kk, w, S, E, W, H, D, rfl, rfl, ok⟩ := I
  obtain ⟨hp, hkk, hH, hW, hl, hS⟩ := id ok
  have hw : ∀ i, i < 8 → W i = nI (w i) := fun i _ => hW i
  unfold wpX_busy
  dsimp only
  unfold wpX_chosen
  dsimp only
  refine tx_bestSet hw hl (by omega) (fun r hr => ?_)
  have h := tm_bs_iff (fun s _ => tm_A00) hr
  obtain ⟨c, hc, rfl, _⟩ := tm_bs_mx h
  refine tx_countAt hc v1 ?_
  unfold wpY_busy
  dsimp only
  refine ty_chosen hp hH hw hl (by omega) (fun r' D' hr' => ?_)
  have e := tm_bs_one (fun a b ha hb => tm_sc_inj ha hb) h hr'
  subst e
  dsimp only
  refine br_c (fun c1 => ⟨?_, tm_rel D' ok⟩) (fun c1 => br_c (fun c2 => ty_at hc v1 ⟨rfl, tm_rel D' ok⟩) (fun c2 => ⟨?_, tm_rel D' ok⟩))
  · rw [tm_cnt_0 8 (fun i hi z => Int32.not_le.mpr (Int32.lt_of_lt_of_le c1 (hS i).1) z.1)]
    rfl
  · rw [tm_cnt_0 8 (fun i hi z => ?_)]
    · rfl
    · have a : v1 < 16 := Int32.lt_of_lt_of_le z.2 (hS i).2
      rw [Int32.lt_iff_toInt_lt, show (16 : Int32).toInt = 16 from by decide] at a
      rw [Int32.le_iff_toInt_le, show (15 : Int32).toInt = 15 from by decide] at c2
      omega
