theorem i_up {k : Nat} {u : SX} {v : SY} (h : i_Rel k u v) : i_Rel (k + 3) u v := h
/-- clamping on both sides: one natural -/
theorem et_clamp (x : Int32) {lo hi : Nat} (hl : lo ≤ hi) (hh : hi < 2 ^ 31) : ∃ n : Nat, lo ≤ n ∧ n ≤ hi ∧ (∀ post : Int32 → Prop, post (nI n) → wpX_clamp post x (nI lo) (nI hi)) ∧ (∀ A : Int32 → Prop, A (nI n) → (nI lo ≤ x → ((x ≤ nI hi → A x) ∧ (¬ x ≤ nI hi → A (nI hi)))) ∧ (¬ nI lo ≤ x → A (nI lo))) := by
  by_cases h1 : nI lo ≤ x
  · have h0 : ¬ x < 0 := Int32.not_lt.mpr (Int32.le_trans (nI_pos' (by omega)) h1)
    obtain ⟨j, hj, rfl⟩ := nI_of h0
    have h1' := (nI_leI (by omega) hj).mp h1
    by_cases h2 : nI j ≤ nI hi
    · exact ⟨j, h1', (nI_leI hj hh).mp h2, fun post hp => br_t h1 (br_t h2 hp), fun A hp => br_t h1 (br_t h2 hp)⟩
    · exact ⟨hi, hl, Nat.le_refl _, fun post hp => br_t h1 (br_f h2 hp), fun A hp => br_t h1 (br_f h2 hp)⟩
  · exact ⟨lo, Nat.le_refl _, hl, fun post hp => br_f h1 hp, fun A hp => br_f h1 hp⟩
theorem i_vc0 (k0 : Int32) (k1 : Int32) : wpX_init (fun u => wpY_init (fun v => i_Rel 2 u v) k0 k1) k0 k1 := by
  obtain ⟨N, n1, n2, nX, nY⟩ := et_clamp k0 (lo := 2) (hi := 8) (by decide) (by decide)
  obtain ⟨M, m1, m2, mX, mY⟩ := et_clamp k1 (lo := 8) (hi := 32) (by decide) (by decide)
  unfold wpX_init
  refine nX _ (mX _ ?_)
  unfold wpY_init
  refine nY (fun z => wY_init_74 _ k1 z 0 0 0 0 0 0 0 (fun _ => 0) (fun _ => 0) (fun _ => 0) (fun _ => 0) (fun _ => 0) (fun _ => 0)) ?_
  refine mY (fun z => i_Rel 2 _ (nI N, z, 0, 0, 0, 0, 0, (fun _ => 0), (fun _ => 0), (fun _ => 0), (fun _ => 0), (fun _ => 0), (fun _ => 0))) ?_
  exact ⟨N, M, 0, 0, 0, 0, 0, (fun _ => 0), (fun _ => 0), (fun _ => 0), (fun _ => 0), (fun _ => 0), (fun _ => 0), (fun _ => 0), (fun _ => 0), (fun _ => 0), rfl, rfl, ⟨n1, n2, m1, m2, by omega, et_b0, et_b0, fun _ _ => ⟨rfl, rfl, rfl⟩⟩, et_inv0 _ _⟩
theorem i_vc_note {k : Nat} {u : SX} {v : SY} (I : i_Rel k u v) (hk : k + 3 ≤ 1538) (v1 : Int32) : wpX_note (fun r => wpY_note (fun r' => r' = r ∧ i_Rel (k + 3) u v) v v1) u v1 := by
  obtain ⟨N, M, h, sd, t, r, tk, ac, sn, wd, nd, ns, st, se, re, T, rfl, rfl, ok, inv⟩ := I
  have J : i_Rel (k + 3) (nI N, nI M, sd, et_an t r, nI h, tk, ac, sn, wd, nd, ns, st, se, re) (nI N, nI M, sd, t, r, nI h, tk, st, se, re, ac, sn, T) := et_R ok inv
  obtain ⟨n1, n2, m1, m2, hh, ht, hr, hT⟩ := ok
  unfold wpX_note wpY_note
  rcases et_ix v1 (n := M) (by omega) with hx | ⟨j, hj, rfl⟩
  · exact et_xS_f hx (br_t rfl (et_o1 hx ⟨rfl, J⟩))
  · have hv : vp_in (nI j) 32 := vp_in_nI (by omega) (by decide)
    exact et_xS_t m2 hj (br_f et_n10 ⟨hv, br_c (fun z => et_i1 (by omega) hj ⟨hv, br_t z ⟨rfl, J⟩⟩) (fun z => ⟨hv, hv, hv, et_i1 (by omega) hj ⟨hv, br_f z ⟨hv, hv, hv, rfl, J⟩⟩⟩)⟩)
theorem i_vc_state {k : Nat} {u : SX} {v : SY} (I : i_Rel k u v) (hk : k + 3 ≤ 1538) (v1 : Int32) : wpX_state (fun r => wpY_state (fun r' => r' = r ∧ i_Rel (k + 3) u v) v v1) u v1 := by
  obtain ⟨N, M, h, sd, t, r, tk, ac, sn, wd, nd, ns, st, se, re, T, rfl, rfl, ok, inv⟩ := I
  have J : i_Rel (k + 3) (nI N, nI M, sd, et_an t r, nI h, tk, ac, sn, wd, nd, ns, st, se, re) (nI N, nI M, sd, t, r, nI h, tk, st, se, re, ac, sn, T) := et_R ok inv
  obtain ⟨n1, n2, m1, m2, hh, ht, hr, hT⟩ := ok
  unfold wpX_state wpY_state
  rcases et_ix v1 (n := N) (by omega) with hx | ⟨j, hj, rfl⟩
  · exact et_xP_f hx (br_t rfl (et_o1 hx ⟨rfl, J⟩))
  · have hv : vp_in (nI j) 8 := vp_in_nI (by omega) (by decide)
    refine et_xP_t n2 hj (br_f et_n10 ⟨hv, br_c (fun z => ?_) (fun z => et_i1 (by omega) hj ⟨hv, br_f z ⟨rfl, J⟩⟩)⟩)
    by_cases he : et_eng M sd t st re j
    · exact et_xeng_t n2 m2 hj ht hr he (br_f et_n10 (et_i1 (by omega) hj ⟨hv, br_t z (et_yeng_t n2 m2 hj inv he (br_f et_n10 ⟨rfl, J⟩))⟩))
    · exact et_xeng_f n2 m2 hj ht hr he (br_t rfl (et_i1 (by omega) hj ⟨hv, br_t z (et_yeng_f n2 m2 hj he (br_t rfl ⟨rfl, J⟩))⟩))
theorem i_vc_parent {k : Nat} {u : SX} {v : SY} (I : i_Rel k u v) (hk : k + 3 ≤ 1538) (v1 : Int32) : wpX_parent (fun r => wpY_parent (fun r' => r' = r ∧ i_Rel (k + 3) u v) v v1) u v1 := by
  obtain ⟨N, M, h, sd, t, r, tk, ac, sn, wd, nd, ns, st, se, re, T, rfl, rfl, ok, inv⟩ := I
  have J : i_Rel (k + 3) (nI N, nI M, sd, et_an t r, nI h, tk, ac, sn, wd, nd, ns, st, se, re) (nI N, nI M, sd, t, r, nI h, tk, st, se, re, ac, sn, T) := et_R ok inv
  obtain ⟨n1, n2, m1, m2, hh, ht, hr, hT⟩ := ok
  unfold wpX_parent
  rcases et_first (fun j => st j = 2 ∧ re j = v1) M with h0 | ⟨s, hs, ⟨h2, hx⟩, hn⟩
  · exact et_xheld_n m2 h0 (br_t rfl (et_ypar_n m2 h0 ⟨rfl, J⟩))
  · exact et_xheld_s m2 hs h2 hx hn (br_f (et_m1 (by omega)) ⟨vp_in_nI (by omega) (by decide), et_ypar_s m2 hs h2 hx hn ⟨by rw [nI_clamp (by omega)], J⟩⟩)
theorem i_vc_deficit {k : Nat} {u : SX} {v : SY} (I : i_Rel k u v) (hk : k + 3 ≤ 1538) (v1 : Int32) : wpX_deficit (fun r => wpY_deficit (fun r' => r' = r ∧ i_Rel (k + 3) u v) v v1) u v1 := by
  obtain ⟨N, M, h, sd, t, r, tk, ac, sn, wd, nd, ns, st, se, re, T, rfl, rfl, ok, inv⟩ := I
  have J : i_Rel (k + 3) (nI N, nI M, sd, et_an t r, nI h, tk, ac, sn, wd, nd, ns, st, se, re) (nI N, nI M, sd, t, r, nI h, tk, st, se, re, ac, sn, T) := et_R ok inv
  obtain ⟨n1, n2, m1, m2, hh, ht, hr, hT⟩ := ok
  unfold wpX_deficit
  rcases et_ix v1 (n := N) (by omega) with hx | ⟨j, hj, rfl⟩
  · exact et_xP_f hx (br_t rfl (et_yun_f hx ⟨rfl, J⟩))
  · exact et_xP_t n2 hj (br_f et_n10 (et_xun m2 (et_yun n2 m2 hj ⟨rfl, J⟩)))
theorem i_vc_stained {k : Nat} {u : SX} {v : SY} (I : i_Rel k u v) (hk : k + 3 ≤ 1538) (v1 : Int32) : wpX_stained (fun r => wpY_stained (fun r' => r' = r ∧ i_Rel (k + 3) u v) v v1) u v1 := by
  obtain ⟨N, M, h, sd, t, r, tk, ac, sn, wd, nd, ns, st, se, re, T, rfl, rfl, ok, inv⟩ := I
  have J : i_Rel (k + 3) (nI N, nI M, sd, et_an t r, nI h, tk, ac, sn, wd, nd, ns, st, se, re) (nI N, nI M, sd, t, r, nI h, tk, st, se, re, ac, sn, T) := et_R ok inv
  obtain ⟨n1, n2, m1, m2, hh, ht, hr, hT⟩ := ok
  unfold wpX_stained wpY_stained
  rcases et_ix v1 (n := N) (by omega) with hx | ⟨j, hj, rfl⟩
  · exact et_xP_f hx (br_t rfl (et_o2 hx ⟨rfl, J⟩))
  · have hv : vp_in (nI j) 8 := vp_in_nI (by omega) (by decide)
    exact et_xP_t n2 hj (br_f et_n10 ⟨hv, br_c (fun z => et_i2 (by omega) hj ⟨hv, br_t z ⟨rfl, J⟩⟩) (fun z => et_i2 (by omega) hj ⟨hv, br_f z ⟨rfl, J⟩⟩)⟩)
theorem i_vc_token {k : Nat} {u : SX} {v : SY} (I : i_Rel k u v) (hk : k + 3 ≤ 1538) : wpX_token (fun r => wpY_token (fun r' => r' = r ∧ i_Rel (k + 3) u v) v) u := by
  obtain ⟨N, M, h, sd, t, r, tk, ac, sn, wd, nd, ns, st, se, re, T, rfl, rfl, ok, inv⟩ := I
  have J : i_Rel (k + 3) (nI N, nI M, sd, et_an t r, nI h, tk, ac, sn, wd, nd, ns, st, se, re) (nI N, nI M, sd, t, r, nI h, tk, st, se, re, ac, sn, T) := et_R ok inv
  unfold wpX_token wpY_token
  exact br_c (fun z => br_t z ⟨rfl, J⟩) (fun z => br_c (fun y => br_f z (br_t y ⟨rfl, J⟩)) (fun y => br_f z (br_f y ⟨rfl, J⟩)))
theorem i_vc_verdict {k : Nat} {u : SX} {v : SY} (I : i_Rel k u v) (hk : k + 3 ≤ 1538) : wpX_verdict (fun r => wpY_verdict (fun r' => r' = r ∧ i_Rel (k + 3) u v) v) u := by
  obtain ⟨N, M, h, sd, t, r, tk, ac, sn, wd, nd, ns, st, se, re, T, rfl, rfl, ok, inv⟩ := I
  have J : i_Rel (k + 3) (nI N, nI M, sd, et_an t r, nI h, tk, ac, sn, wd, nd, ns, st, se, re) (nI N, nI M, sd, t, r, nI h, tk, st, se, re, ac, sn, T) := et_R ok inv
  obtain ⟨n1, n2, m1, m2, hh, ht, hr, hT⟩ := ok
  unfold wpX_verdict wpY_verdict
  rcases ht with rfl | rfl
  · rcases hr with rfl | rfl
    · exact br_t rfl (br_t rfl ⟨by decide, J⟩)
    · exact br_t rfl (br_f et_n10 ⟨by decide, J⟩)
  · rcases hr with rfl | rfl
    · exact br_f et_n10 (br_t rfl ⟨by decide, J⟩)
    · exact br_f et_n10 (br_f et_n10 ⟨by decide, J⟩)
theorem i_vc_tally {k : Nat} {u : SX} {v : SY} (I : i_Rel k u v) (hk : k + 3 ≤ 1538) (v1 : Int32) (v2 : Int32) : wpX_tally (fun r => wpY_tally (fun r' => r' = r ∧ i_Rel (k + 3) u v) v v1 v2) u v1 v2 := by
  obtain ⟨N, M, h, sd, t, r, tk, ac, sn, wd, nd, ns, st, se, re, T, rfl, rfl, ok, inv⟩ := I
  have J : i_Rel (k + 3) (nI N, nI M, sd, et_an t r, nI h, tk, ac, sn, wd, nd, ns, st, se, re) (nI N, nI M, sd, t, r, nI h, tk, st, se, re, ac, sn, T) := et_R ok inv
  obtain ⟨n1, n2, m1, m2, hh, ht, hr, hT⟩ := ok
  unfold wpX_tally wpY_tally
  rcases et_ix v1 (n := N) (by omega) with hx | ⟨j, hj, rfl⟩
  · exact et_xP_f hx (br_t rfl (et_o2 hx ⟨rfl, J⟩))
  · have hv : vp_in (nI j) 8 := vp_in_nI (by omega) (by decide)
    have hc := nI_clamp (show j < 2 ^ 31 by omega)
    refine et_xP_t n2 hj (br_f et_n10 (br_c (fun z => et_i2 (by omega) hj (br_t z ⟨rfl, J⟩)) (fun z => br_c (fun y => et_i2 (by omega) hj (br_f z (br_f (Int32.not_le.mpr y) ⟨rfl, J⟩))) (fun y => ?_))))
    obtain ⟨w, hw, rfl⟩ := nI_of z
    have hw2 : w ≤ 2 := (nI_leI hw (by decide)).mp (Int32.not_lt.mp y)
    have y' : nI w ≤ 2 := Int32.not_lt.mp y
    have ei : nI w * 8 + nI j = nI (w * 8 + j) := by
      show nI w * nI 8 + nI j = _
      rw [pk_mul, nI_add]
    have hi : vp_in (nI w * 8 + nI j) 24 := by rw [ei]; exact vp_in_nI (by omega) (by decide)
    have hci : (nI w * 8 + nI j).toNatClampNeg = w * 8 + j := by rw [ei]; exact nI_clamp (by omega)
    have ww : w = 0 ∨ w = 1 ∨ w = 2 := by omega
    rcases ww with rfl | rfl | rfl
    · refine br_t nI_0 ⟨hv, et_i2 (by omega) hj (br_f z (br_t y' ⟨hi, ?_, J⟩))⟩
      rw [hci, hc, Nat.zero_mul, Nat.zero_add]; exact (hT j hj).1
    · refine br_f (by decide) (br_t et_1n ⟨hv, et_i2 (by omega) hj (br_f z (br_t y' ⟨hi, ?_, J⟩))⟩)
      rw [hci, hc]; exact (hT j hj).2.1
    · refine br_f (by decide) (br_f (by decide) (br_t (by decide) ⟨hv, et_i2 (by omega) hj (br_f z (br_t y' ⟨hi, ?_, J⟩))⟩))
      rw [hci, hc]; exact (hT j hj).2.2
theorem i_vc_result {k : Nat} {u : SX} {v : SY} (I : i_Rel k u v) (hk : k + 3 ≤ 1538) (v1 : Int32) : wpX_result (fun r => wpY_result (fun r' => r' = r ∧ i_Rel (k + 3) u v) v v1) u v1 := by
  obtain ⟨N, M, h, sd, t, r, tk, ac, sn, wd, nd, ns, st, se, re, T, rfl, rfl, ok, inv⟩ := I
  have J : i_Rel (k + 3) (nI N, nI M, sd, et_an t r, nI h, tk, ac, sn, wd, nd, ns, st, se, re) (nI N, nI M, sd, t, r, nI h, tk, st, se, re, ac, sn, T) := et_R ok inv
  obtain ⟨n1, n2, m1, m2, hh, ht, hr, hT⟩ := ok
  have eW : et_sm T N = et_sm wd N := et_sm_c N (fun p hp => (hT p hp).1)
  have eD : et_sm (fun p => T (8 + p)) N = et_sm nd N := et_sm_c N (fun p hp => (hT p hp).2.1)
  have eM : et_mk (fun p => T (8 + p)) N = et_mk nd N := et_mk_c N (fun p hp => (hT p hp).2.1)
  by_cases hA : v1 = 0 ∧ t ≠ 0
  · obtain ⟨rfl, h0⟩ := hA
    exact et_xrA n2 ht hr h0 ⟨N + 1, et_yrA n2 h0 ⟨eW, J⟩ N 0 (by omega)⟩
  · by_cases hB : v1 = 1 ∧ t ≠ 0
    · obtain ⟨rfl, h0⟩ := hB
      exact et_xrB (by omega) n2 ht hr h0 ⟨N + 1, et_yrB n2 h0 ⟨by rw [eM], J⟩ N 0 (by omega)⟩
    · by_cases hC : v1 = 2 ∧ r ≠ 0
      · obtain ⟨rfl, h0⟩ := hC
        exact et_xrC n2 ht hr h0 ⟨N + 1, et_yrC n2 h0 ⟨eD, J⟩ N 0 (by omega)⟩
      · have g0 : v1 = 0 → t = 0 := fun z => Decidable.not_not.mp (fun y => hA ⟨z, y⟩)
        have g1 : v1 = 1 → t = 0 := fun z => Decidable.not_not.mp (fun y => hB ⟨z, y⟩)
        have g2 : v1 = 2 → r = 0 := fun z => Decidable.not_not.mp (fun y => hC ⟨z, y⟩)
        exact et_xrD ht hr g0 g1 g2 ⟨N + 1, et_yrD n2 g0 g1 g2 ⟨rfl, J⟩ N 0 (by omega)⟩
