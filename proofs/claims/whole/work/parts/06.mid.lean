section ETM
variable {N M h : Nat} {sd tk t r : Int32} {ac sn wd nd ns st se re T : Nat → Int32}
theorem et_yhome_y {post : SY → Prop} {p s : Nat} (hN : N ≤ 8) (hM : M ≤ 32) (hpN : p < N) (h0 : p ≠ 0) (hs : s < M) (h2 : st s = 2) (hr : re s = nI p) (hu : ∀ j, j < M → j ≠ s → ¬ (st j = 2 ∧ re j = nI p)) (ha : ac p = 0) (hd : et_cn st se (nI p) M = 0) (hp : post (nI N, nI M, sd, t, r, nI h, tk, upd st s 3, se, re, ac, sn, T)) : wpY_homecoming post (nI N, nI M, sd, t, r, nI h, tk, st, se, re, ac, sn, T) (nI p) := by
  unfold wpY_homecoming
  refine br_f (nI_ne0 (Nat.pos_of_ne_zero h0) (by omega)) ⟨vp_in_nI (by omega) (by decide), br_t ?_ (et_yun hN hM hpN (br_t ?_ ⟨M + 1, et_yhl_s hM hs h2 hr hp M 0 (by omega) (by omega) (fun j _ => hu j)⟩))⟩
  · rw [nI_clamp (by omega)]; exact ha
  · rw [hd]; exact nI_0
theorem et_yhome_n {post : SY → Prop} {p : Nat} (hN : N ≤ 8) (hM : M ≤ 32) (hpN : p < N) (hx : p = 0 ∨ (∀ j, j < M → ¬ (st j = 2 ∧ re j = nI p)) ∨ ac p ≠ 0 ∨ et_cn st se (nI p) M ≠ 0) (hp : post (nI N, nI M, sd, t, r, nI h, tk, st, se, re, ac, sn, T)) : wpY_homecoming post (nI N, nI M, sd, t, r, nI h, tk, st, se, re, ac, sn, T) (nI p) := by
  unfold wpY_homecoming
  by_cases h0 : p = 0
  · subst h0; exact br_t nI_0 hp
  · refine br_f (nI_ne0 (Nat.pos_of_ne_zero h0) (by omega)) ⟨vp_in_nI (by omega) (by decide), br_c (fun z => et_yun hN hM hpN (br_c (fun y => ?_) (fun _ => hp))) (fun _ => hp)⟩
    rw [nI_clamp (by omega)] at z
    have hc : et_cn st se (nI p) M = 0 := (nI_eq (by have := et_cn_le st se (nI p) M; omega) (by decide)).mp y
    rcases hx.resolve_left h0 with g | g | g
    · exact ⟨M + 1, et_yhl_n hM hp M 0 (by omega) (fun j _ => g j)⟩
    · exact absurd z g
    · exact absurd hc g
theorem et_ytree_y {post : SY → Prop} (hN : N ≤ 8) (hM : M ≤ 32) (hsd : sd ≠ 0) (hA : ∀ p, p < N → ac p = 0) (hF : ∀ j, j < M → st j = 0) (hp : post (nI N, nI M, sd, 1, r, nI h, tk, st, se, re, ac, sn, T)) : wpY_treeRule post (nI N, nI M, sd, t, r, nI h, tk, st, se, re, ac, sn, T) :=
  br_f hsd (et_yact_n hN hA (br_f et_n10 ⟨M + 1, et_ytl_1 hM hp M 0 (by omega) (fun j _ => hF j)⟩))
theorem et_ytree_n {post : SY → Prop} (hN : N ≤ 8) (hM : M ≤ 32) (hx : sd = 0 ∨ (∃ p, p < N ∧ ac p ≠ 0) ∨ (∃ j, j < M ∧ st j ≠ 0)) (hp : post (nI N, nI M, sd, t, r, nI h, tk, st, se, re, ac, sn, T)) : wpY_treeRule post (nI N, nI M, sd, t, r, nI h, tk, st, se, re, ac, sn, T) := by
  by_cases h0 : sd = 0
  · exact br_t h0 ⟨M + 1, et_ytl_0 hM hp M 0 (by omega)⟩
  · refine br_f h0 ?_
    rcases et_first (fun j => ac j ≠ 0) N with hA | ⟨p, hpN, hA, -⟩
    · have hA' : ∀ j, j < N → ac j = 0 := fun j hj => Decidable.not_not.mp (hA j hj)
      rcases hx.resolve_left h0 with ⟨p, hpN, hy⟩ | ⟨s, hs, hy⟩
      · exact absurd hy (hA p hpN)
      · exact et_yact_n hN hA' (br_f et_n10 ⟨M + 1, et_ytl_n hM hs hy hp M 0 (by omega) (by omega)⟩)
    · exact et_yact_s hN hpN hA (br_t rfl ⟨M + 1, et_ytl_0 hM hp M 0 (by omega)⟩)
theorem et_yeng_t {post : Int32 → Prop} {q : Nat} (hN : N ≤ 8) (hM : M ≤ 32) (hq : q < N) (I : et_Inv N M sd t ac st se re) (he : et_eng M sd t st re q) (hp : post 1) : wpY_engaged post (nI N, nI M, sd, t, r, nI h, tk, st, se, re, ac, sn, T) (nI q) := by
  unfold wpY_engaged
  rcases he with ⟨rfl, h1, h2⟩ | ⟨h0, j, hj, h2, h3⟩
  · exact br_t nI_0 (br_f h1 (br_t h2 hp))
  · refine br_f (nI_ne0 (Nat.pos_of_ne_zero h0) (by omega)) ?_
    rcases et_first (fun j => st j = 2 ∧ re j = nI q) M with g0 | ⟨s, hs, ⟨g2, gr⟩, gn⟩
    · exact absurd ⟨h2, h3⟩ (g0 j hj)
    · obtain ⟨⟨a, ha, ea⟩, -⟩ := I.2.1 s hs (by rw [g2]; exact et_n20)
      refine et_ypar_s hM hs g2 gr gn (br_f ?_ hp)
      rw [ea]; exact et_m1 (by omega)
theorem et_yeng_f {post : Int32 → Prop} {q : Nat} (hN : N ≤ 8) (hM : M ≤ 32) (hq : q < N) (he : ¬ et_eng M sd t st re q) (hp : post 0) : wpY_engaged post (nI N, nI M, sd, t, r, nI h, tk, st, se, re, ac, sn, T) (nI q) := by
  unfold wpY_engaged
  by_cases h0 : q = 0
  · subst h0
    exact br_t nI_0 (br_c (fun _ => hp) (fun h1 => br_f (fun z => he (Or.inl ⟨rfl, h1, z⟩)) hp))
  · exact br_f (nI_ne0 (Nat.pos_of_ne_zero h0) (by omega)) (et_ypar_n hM (fun j hj z => he (Or.inr ⟨h0, j, hj, z.1, z.2⟩)) (br_t rfl hp))
/-- homecoming on both sides -/
theorem et_home (hN : N ≤ 8) (hM : M ≤ 32) {p : Nat} (hpN : p < N) (I : et_Inv N M sd t ac st se re) : ∃ st' : Nat → Int32, et_Inv N M sd t ac st' se re ∧ (∀ (an : Int32) (post : SX → Prop), post (nI N, nI M, sd, an, nI h, tk, ac, sn, wd, nd, ns, st', se, re) → wpX_comeHome post (nI N, nI M, sd, an, nI h, tk, ac, sn, wd, nd, ns, st, se, re) (nI p)) ∧ (∀ post : SY → Prop, post (nI N, nI M, sd, t, r, nI h, tk, st', se, re, ac, sn, T) → wpY_homecoming post (nI N, nI M, sd, t, r, nI h, tk, st, se, re, ac, sn, T) (nI p)) := by
  rcases et_first (fun j => st j = 2 ∧ re j = nI p) M with h0 | ⟨s, hs, ⟨h2, hr⟩, hn⟩
  · exact ⟨st, I, fun an post hp => et_xhome_n hN hM hpN (Or.inl h0) hp, fun post hp => et_yhome_n hN hM hpN (Or.inr (Or.inl h0)) hp⟩
  · by_cases ha : ac p = 0
    · by_cases hd : et_cn st se (nI p) M = 0
      · have hz : re s ≠ 0 := I.2.2.1 s hs h2
        have p0 : p ≠ 0 := fun z => hz (by rw [hr, z]; exact nI_0)
        refine ⟨upd st s 3, et_put I hs (by rw [h2]; exact et_n20) (Or.inr (Or.inl rfl)), fun an post hp => et_xhome_y hN hM hpN hs h2 hr hn ha hd hp, fun post hp => et_yhome_y hN hM hpN p0 hs h2 hr ?_ ha hd hp⟩
        exact fun j hj hjs z => hjs (I.2.2.2.1 j s hj hs z.1 h2 (z.2.trans hr.symm))
      · exact ⟨st, I, fun an post hp => et_xhome_n hN hM hpN (Or.inr (Or.inr hd)) hp, fun post hp => et_yhome_n hN hM hpN (Or.inr (Or.inr (Or.inr hd))) hp⟩
    · exact ⟨st, I, fun an post hp => et_xhome_n hN hM hpN (Or.inr (Or.inl ha)) hp, fun post hp => et_yhome_n hN hM hpN (Or.inr (Or.inr (Or.inl ha))) hp⟩
/-- the TREE RULE on both sides -/
theorem et_rule (hN : N ≤ 8) (hM : M ≤ 32) (ht : et_b t) (hr : et_b r) (I : et_Inv N M sd t ac st se re) : ∃ t' : Int32, et_b t' ∧ et_Inv N M sd t' ac st se re ∧ (∀ post : SX → Prop, post (nI N, nI M, sd, et_an t' r, nI h, tk, ac, sn, wd, nd, ns, st, se, re) → wpX_applyTreeRule post (nI N, nI M, sd, et_an t r, nI h, tk, ac, sn, wd, nd, ns, st, se, re)) ∧ (∀ post : SY → Prop, post (nI N, nI M, sd, t', r, nI h, tk, st, se, re, ac, sn, T) → wpY_treeRule post (nI N, nI M, sd, t, r, nI h, tk, st, se, re, ac, sn, T)) := by
  by_cases h0 : sd = 0
  · exact ⟨t, ht, I, fun post hp => et_xtree_n hN hM (Or.inl h0) hp, fun post hp => et_ytree_n hN hM (Or.inl h0) hp⟩
  · rcases et_first (fun j => ac j ≠ 0) N with hA | ⟨p, hpN, hA, -⟩
    · rcases et_first (fun j => st j ≠ 0) M with hF | ⟨s, hs, hF, -⟩
      · have hA' : ∀ j, j < N → ac j = 0 := fun j hj => Decidable.not_not.mp (hA j hj)
        have hF' : ∀ j, j < M → st j = 0 := fun j hj => Decidable.not_not.mp (hF j hj)
        refine ⟨1, et_b1, et_tree I hF' hA' 1, fun post hp => et_xtree_y hN hM h0 hA' hF' ?_, fun post hp => et_ytree_y hN hM h0 hA' hF' hp⟩
        rw [et_or1 ht hr]; exact hp
      · exact ⟨t, ht, I, fun post hp => et_xtree_n hN hM (Or.inr (Or.inr ⟨s, hs, hF⟩)) hp, fun post hp => et_ytree_n hN hM (Or.inr (Or.inr ⟨s, hs, hF⟩)) hp⟩
    · exact ⟨t, ht, I, fun post hp => et_xtree_n hN hM (Or.inr (Or.inl ⟨p, hpN, hA⟩)) hp, fun post hp => et_ytree_n hN hM (Or.inr (Or.inl ⟨p, hpN, hA⟩)) hp⟩
/-- an acknowledgement delivered, on both sides -/
theorem et_ack (hN : N ≤ 8) (hM : M ≤ 32) (ht : et_b t) (hr : et_b r) {s : Nat} (hs : s < M) (h3 : st s = 3) (I : et_Inv N M sd t ac st se re) : ∃ (st' : Nat → Int32) (t' : Int32), et_b t' ∧ et_Inv N M sd t' ac st' se re ∧ (∀ post : Int32 → SX → Prop, post 0 (nI N, nI M, sd, et_an t' r, nI h, tk, ac, sn, wd, nd, ns, st', se, re) → wpX_deliverAcknowledgement post (nI N, nI M, sd, et_an t r, nI h, tk, ac, sn, wd, nd, ns, st, se, re) (nI s)) ∧ (∀ post : Int32 → SY → Prop, post 0 (nI N, nI M, sd, t', r, nI h, tk, st', se, re, ac, sn, T) → wpY_deliver post (nI N, nI M, sd, t, r, nI h, tk, st, se, re, ac, sn, T) (nI s)) := by
  have s0 : st s ≠ 0 := by rw [h3]; exact et_n30
  obtain ⟨⟨a, ha, ea⟩, -⟩ := I.2.1 s hs s0
  obtain ⟨st', I', hX, hY⟩ := et_home (h := h) (tk := tk) (r := r) (sn := sn) (wd := wd) (nd := nd) (ns := ns) (T := T) hN hM ha (et_put I hs s0 (Or.inl rfl))
  obtain ⟨t', ht', I'', gX, gY⟩ := et_rule (h := h) (tk := tk) (r := r) (sn := sn) (wd := wd) (nd := nd) (ns := ns) (T := T) hN hM ht hr I'
  have hc := nI_clamp (show s < 2 ^ 31 by omega)
  refine ⟨st', t', ht', I'', fun post hp => ?_, fun post hp => ?_⟩
  · unfold wpX_deliverAcknowledgement
    refine ⟨vp_in_nI (by omega) (by decide), nm_r (by rw [hc]) ⟨vp_in_nI (by omega) (by decide), ?_⟩⟩
    rw [hc, ea]
    exact hX _ _ (gX _ hp)
  · unfold wpY_deliver
    refine br_f (nI_pos (by omega)) (br_t (nI_lt hs (by omega)) ⟨vp_in_nI (by omega) (by decide), br_f (by rw [hc]; exact s0) ⟨vp_in_nI (by omega) (by decide), br_f (by rw [hc, h3]; exact et_n32) ⟨vp_in_nI (by omega) (by decide), br_f (by rw [hc, h3]; decide) ⟨vp_in_nI (by omega) (by decide), nm_r (by rw [hc]) ⟨vp_in_nI (by omega) (by decide), ?_⟩⟩⟩⟩⟩)
    rw [hc, ea]
    exact hY _ (gY _ hp)
end ETM
