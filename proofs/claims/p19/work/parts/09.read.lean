section ERA
variable {N M h : Nat} {sd an t r tk : Int32} {ac sn wd nd ns st se re : Nat → Int32} {post : Int32 → Prop}
theorem ej_rstate (hN : N ≤ 8) (hM : M ≤ 32) (ht : et_b t) (hr : et_b r) {p : Nat} (hp : p < N) : ∃ c : Int32, (c = 2 ↔ ac p ≠ 0) ∧ (c = 0 ↔ (ac p = 0 ∧ ¬ et_eng M sd t st re p)) ∧ ∀ post : Int32 → Prop, post c → wpX_state post (nI N, nI M, sd, et_an t r, nI h, tk, ac, sn, wd, nd, ns, st, se, re) (nI p) := by
  have hv : vp_in (nI p) 8 := vp_in_nI (by omega) (by decide)
  have hc := nI_clamp (show p < 2 ^ 31 by omega)
  by_cases ha : ac p = 0
  · by_cases he : et_eng M sd t st re p
    · refine ⟨1, ⟨fun z => absurd z (by decide), fun z => absurd ha z⟩, ⟨fun z => absurd z (by decide), fun z => absurd he z.2⟩, fun post hq => ?_⟩
      unfold wpX_state
      exact et_xP_t hN hp (br_f et_n10 ⟨hv, br_t (by rw [hc]; exact ha) (et_xeng_t hN hM hp ht hr he (br_f et_n10 hq))⟩)
    · refine ⟨0, ⟨fun z => absurd z (by decide), fun z => absurd ha z⟩, ⟨fun _ => ⟨ha, he⟩, fun _ => rfl⟩, fun post hq => ?_⟩
      unfold wpX_state
      exact et_xP_t hN hp (br_f et_n10 ⟨hv, br_t (by rw [hc]; exact ha) (et_xeng_f hN hM hp ht hr he (br_t rfl hq))⟩)
  · refine ⟨2, ⟨fun _ => ha, fun _ => rfl⟩, ⟨fun z => absurd z (by decide), fun z => absurd z.1 ha⟩, fun post hq => ?_⟩
    unfold wpX_state
    exact et_xP_t hN hp (br_f et_n10 ⟨hv, br_f (by rw [hc]; exact ha) hq⟩)
theorem ej_rstate_any (hN : N ≤ 8) (hM : M ≤ 32) (ht : et_b t) (hr : et_b r) {x : Int32} (hp : ∀ c, post c) : wpX_state post (nI N, nI M, sd, et_an t r, nI h, tk, ac, sn, wd, nd, ns, st, se, re) x := by
  rcases ej_ix x (n := N) (by omega) with hx | ⟨j, hj, rfl⟩
  · unfold wpX_state
    exact et_xP_f hx (br_t rfl (hp _))
  · obtain ⟨c, -, -, H⟩ := ej_rstate (h := h) (sd := sd) (tk := tk) (ac := ac) (sn := sn) (wd := wd) (nd := nd) (ns := ns) (st := st) (se := se) (re := re) hN hM ht hr hj
    exact H post (hp c)
theorem ej_nv : ∀ s, s < 4 → ∀ a, a < 8 → ∀ b, b < 8 → (nI s * 64 + nI a * 8 + nI b) / 64 = nI s := by decide +kernel
theorem ej_rnote (hN : N ≤ 8) (hM : M ≤ 32) (I : et_Inv N M sd t ac st se re) {j : Nat} (hj : j < M) : ∃ c : Int32, (c / 64 = 1 ↔ st j = 1) ∧ (st j = 0 → c = 0) ∧ ∀ post : Int32 → Prop, post c → wpX_note post (nI N, nI M, sd, an, nI h, tk, ac, sn, wd, nd, ns, st, se, re) (nI j) := by
  have hv : vp_in (nI j) 32 := vp_in_nI (by omega) (by decide)
  have hc := nI_clamp (show j < 2 ^ 31 by omega)
  by_cases h0 : st j = 0
  · refine ⟨0, ⟨fun z => absurd z (by decide), fun z => absurd (h0.symm.trans z) (by decide)⟩, fun _ => rfl, fun post hq => ?_⟩
    unfold wpX_note
    exact et_xS_t hM hj (br_f et_n10 ⟨hv, br_t (by rw [hc]; exact h0) hq⟩)
  · obtain ⟨⟨a, ha, ea⟩, ⟨b, hb, eb⟩⟩ := I.2.1 j hj h0
    have hs : ∃ s, s < 4 ∧ st j = nI s := by
      rcases I.1 j hj with z | z | z | z
      · exact ⟨0, by decide, z⟩
      · exact ⟨1, by decide, z⟩
      · exact ⟨2, by decide, z⟩
      · exact ⟨3, by decide, z⟩
    obtain ⟨s, hs4, es⟩ := hs
    have e : (st j * 64 + se j * 8 + re j) / 64 = st j := by
      rw [ea, eb, es]; exact ej_nv s hs4 a (by omega) b (by omega)
    refine ⟨st j * 64 + se j * 8 + re j, by rw [e], fun z => absurd z h0, fun post hq => ?_⟩
    unfold wpX_note
    refine et_xS_t hM hj (br_f et_n10 ⟨hv, br_f (by rw [hc]; exact h0) ⟨hv, hv, hv, ?_⟩⟩)
    rw [hc]; exact hq
theorem ej_rnote_any (hM : M ≤ 32) {x : Int32} (hp : ∀ c, post c) : wpX_note post (nI N, nI M, sd, an, nI h, tk, ac, sn, wd, nd, ns, st, se, re) x := by
  unfold wpX_note
  rcases ej_ix x (n := M) (by omega) with hx | ⟨j, hj, rfl⟩
  · exact et_xS_f hx (br_t rfl (hp _))
  · have hv : vp_in (nI j) 32 := vp_in_nI (by omega) (by decide)
    exact et_xS_t hM hj (br_f et_n10 ⟨hv, br_c (fun _ => hp _) (fun _ => ⟨hv, hv, hv, hp _⟩)⟩)
theorem ej_rt0 (hN : N ≤ 8) {p : Nat} (hp : p < N) (hq : post (wd p)) : wpX_tally post (nI N, nI M, sd, an, nI h, tk, ac, sn, wd, nd, ns, st, se, re) (nI p) 0 := by
  unfold wpX_tally
  refine et_xP_t hN hp (br_f et_n10 (br_f (by decide) (br_f (by decide) (br_t rfl ⟨vp_in_nI (by omega) (by decide), ?_⟩))))
  rw [nI_clamp (by omega)]; exact hq
theorem ej_rt1 (hN : N ≤ 8) {p : Nat} (hp : p < N) (hq : post (nd p)) : wpX_tally post (nI N, nI M, sd, an, nI h, tk, ac, sn, wd, nd, ns, st, se, re) (nI p) 1 := by
  unfold wpX_tally
  refine et_xP_t hN hp (br_f et_n10 (br_f (by decide) (br_f (by decide) (br_f (by decide) (br_t rfl ⟨vp_in_nI (by omega) (by decide), ?_⟩)))))
  rw [nI_clamp (by omega)]; exact hq
theorem ej_rt2 (hN : N ≤ 8) {p : Nat} (hp : p < N) (hq : post (ns p)) : wpX_tally post (nI N, nI M, sd, an, nI h, tk, ac, sn, wd, nd, ns, st, se, re) (nI p) 2 := by
  unfold wpX_tally
  refine et_xP_t hN hp (br_f et_n10 (br_f (by decide) (br_f (by decide) (br_f (by decide) (br_f (by decide) (br_t rfl ⟨vp_in_nI (by omega) (by decide), ?_⟩))))))
  rw [nI_clamp (by omega)]; exact hq
theorem ej_rres0 (hN : N ≤ 8) (ht : et_b t) (hr : et_b r) (h0 : t ≠ 0) (hp : post (et_sm wd N)) : wpX_result post (nI N, nI M, sd, et_an t r, nI h, tk, ac, sn, wd, nd, ns, st, se, re) 0 := by
  unfold wpX_result
  exact br_t rfl (et_xA_t (fun z => h0 ((et_an1 ht hr).mp z)) (br_f et_n10 (et_xsmW hN hp)))
theorem ej_rres2 (hN : N ≤ 8) (ht : et_b t) (hr : et_b r) (h0 : r ≠ 0) (hp : post (et_sm nd N)) : wpX_result post (nI N, nI M, sd, et_an t r, nI h, tk, ac, sn, wd, nd, ns, st, se, re) 2 := by
  unfold wpX_result
  refine br_f (by decide) ?_
  unfold wX_result_21
  refine br_f (by decide) ?_
  unfold wX_result_39
  exact br_t rfl (et_xA_t (fun z => h0 ((et_an2 ht hr).mp z)) (br_f et_n10 (et_xsmD hN hp)))
theorem ej_rpar {x : Int32} {s : Nat} (hM : M ≤ 32) (hs : s < M) (h2 : st s = 2) (hx : re s = x) (hn : ∀ j, j < s → ¬ (st j = 2 ∧ re j = x)) (hp : post (se s)) : wpX_parent post (nI N, nI M, sd, an, nI h, tk, ac, sn, wd, nd, ns, st, se, re) x := by
  unfold wpX_parent
  refine et_xheld_s hM hs h2 hx hn (br_f (et_m1 (by omega)) ⟨vp_in_nI (by omega) (by decide), ?_⟩)
  rw [nI_clamp (by omega)]; exact hp
theorem ej_rdef {p : Nat} (hN : N ≤ 8) (hM : M ≤ 32) (hpN : p < N) (hp : post (nI (et_cn st se (nI p) M))) : wpX_deficit post (nI N, nI M, sd, an, nI h, tk, ac, sn, wd, nd, ns, st, se, re) (nI p) := by
  unfold wpX_deficit
  exact et_xP_t hN hpN (br_f et_n10 (et_xun hM hp))
end ERA
