section ETK
variable {N M h : Nat} {sd t r tk : Int32} {ac sn st se re T : Nat → Int32} {post : Int32 → SY → Prop}
-- the reference's loops in passToken
theorem et_fb0 : narrow .boolean (.int 0) = .int 0 ∧ fits .boolean (.int 0) = true := ⟨rfl, by decide⟩
theorem et_fb1 : narrow .boolean (.int 1) = .int 1 ∧ fits .boolean (.int 1) = true := ⟨rfl, by decide⟩
theorem et_y127_0 (hM : M ≤ 32) (hp : post 0 (nI N, nI M, sd, t, 0, nI N - 1, 0, st, se, re, ac, upd sn 0 0, T)) : ∀ d i, i + d = M → wY_passToken_127 post (nI N) (nI M) sd t r (nI h) tk st se re ac sn T (d + 1) 0 (nI i) := by
  intro d
  induction d with
  | zero => exact fun i hi => br_t (nI_le (by omega) (by omega)) ⟨et_fb0.1, et_fb0.2, br_t rfl (nm_r (by rw [et_vb0]) (nm_e hp))⟩
  | succ d ih =>
    intro i hi
    have hr := nm_r (P := fun y => wY_passToken_127 post (nI N) (nI M) sd t r (nI h) tk st se re ac sn T (d + 1) 0 y) (nI_1 i) (ih (i + 1) (by omega))
    exact br_f (nI_ge (by omega) (by omega)) ⟨vp_in_nI (by omega) (by decide), br_c (fun _ => hr) (fun _ => hr)⟩
theorem et_y127_1 (hM : M ≤ 32) (hp : post 1 (nI N, nI M, sd, t, 1, nI h, tk, st, se, re, ac, sn, T)) : ∀ d i, i + d = M → (∀ j, i ≤ j → j < M → st j ≠ 1) → wY_passToken_127 post (nI N) (nI M) sd t r (nI h) tk st se re ac sn T (d + 1) 1 (nI i) := by
  intro d
  induction d with
  | zero => exact fun i hi _ => br_t (nI_le (by omega) (by omega)) ⟨et_fb1.1, et_fb1.2, br_f et_n10 hp⟩
  | succ d ih =>
    intro i hi hn
    refine br_f (nI_ge (by omega) (by omega)) ⟨vp_in_nI (by omega) (by decide), br_f ?_ (nm_r (nI_1 i) (ih (i + 1) (by omega) (fun j hj => hn j (by omega))))⟩
    rw [nI_clamp (by omega)]; exact hn i (Nat.le_refl i) (by omega)
theorem et_y127_n {s : Nat} (hM : M ≤ 32) (hs : s < M) (h1 : st s = 1) (hp : post 0 (nI N, nI M, sd, t, 0, nI N - 1, 0, st, se, re, ac, upd sn 0 0, T)) : ∀ d i, i + d = M → i ≤ s → wY_passToken_127 post (nI N) (nI M) sd t r (nI h) tk st se re ac sn T (d + 1) 1 (nI i) := by
  intro d
  induction d with
  | zero => exact fun i hi h1 => absurd hi (by omega)
  | succ d ih =>
    intro i hi his
    by_cases e : i = s
    · subst e
      exact br_f (nI_ge (by omega) (by omega)) ⟨vp_in_nI (by omega) (by decide), br_t (by rw [nI_clamp (by omega)]; exact h1) (nm_r (nI_1 i) (et_y127_0 hM hp d (i + 1) (by omega)))⟩
    · exact br_f (nI_ge (by omega) (by omega)) ⟨vp_in_nI (by omega) (by decide), br_c (fun _ => nm_r (nI_1 i) (et_y127_0 hM hp d (i + 1) (by omega))) (fun _ => nm_r (nI_1 i) (ih (i + 1) (by omega) (by omega)))⟩
theorem et_y100_0 (hN : N ≤ 8) (hp : ∃ n, wY_passToken_127 post (nI N) (nI M) sd t r (nI h) tk st se re ac sn T n 0 0) : ∀ d i, i + d = N → wY_passToken_100 post (nI N) (nI M) sd t r (nI h) tk st se re ac sn T (d + 1) 0 (nI i) := by
  intro d
  induction d with
  | zero => exact fun i hi => br_t (nI_le (by omega) (by omega)) hp
  | succ d ih =>
    intro i hi
    have hr := nm_r (P := fun y => wY_passToken_100 post (nI N) (nI M) sd t r (nI h) tk st se re ac sn T (d + 1) 0 y) (nI_1 i) (ih (i + 1) (by omega))
    exact br_f (nI_ge (by omega) (by omega)) ⟨vp_in_nI (by omega) (by decide), br_c (fun _ => hr) (fun _ => hr)⟩
theorem et_y100_1 (hN : N ≤ 8) (hp : ∃ n, wY_passToken_127 post (nI N) (nI M) sd t r (nI h) tk st se re ac sn T n 1 0) : ∀ d i, i + d = N → (∀ j, i ≤ j → j < N → sn j = 0) → wY_passToken_100 post (nI N) (nI M) sd t r (nI h) tk st se re ac sn T (d + 1) 1 (nI i) := by
  intro d
  induction d with
  | zero => exact fun i hi _ => br_t (nI_le (by omega) (by omega)) hp
  | succ d ih =>
    intro i hi hn
    refine br_f (nI_ge (by omega) (by omega)) ⟨vp_in_nI (by omega) (by decide), br_t ?_ (nm_r (nI_1 i) (ih (i + 1) (by omega) (fun j hj => hn j (by omega))))⟩
    rw [nI_clamp (by omega)]; exact hn i (Nat.le_refl i) (by omega)
theorem et_y100_n {s : Nat} (hN : N ≤ 8) (hs : s < N) (h1 : sn s ≠ 0) (hp : ∃ n, wY_passToken_127 post (nI N) (nI M) sd t r (nI h) tk st se re ac sn T n 0 0) : ∀ d i, i + d = N → i ≤ s → wY_passToken_100 post (nI N) (nI M) sd t r (nI h) tk st se re ac sn T (d + 1) 1 (nI i) := by
  intro d
  induction d with
  | zero => exact fun i hi h1 => absurd hi (by omega)
  | succ d ih =>
    intro i hi his
    by_cases e : i = s
    · subst e
      exact br_f (nI_ge (by omega) (by omega)) ⟨vp_in_nI (by omega) (by decide), br_f (by rw [nI_clamp (by omega)]; exact h1) (nm_r (nI_1 i) (et_y100_0 hN hp d (i + 1) (by omega)))⟩
    · exact br_f (nI_ge (by omega) (by omega)) ⟨vp_in_nI (by omega) (by decide), br_c (fun _ => nm_r (nI_1 i) (ih (i + 1) (by omega) (by omega))) (fun _ => nm_r (nI_1 i) (et_y100_0 hN hp d (i + 1) (by omega)))⟩
/-- the reference at the token in process 0: RING -/
theorem et_yring_y (hN : N ≤ 8) (hM : M ≤ 32) (hsd : sd ≠ 0) (hr : r = 0) (h0 : h = 0) (h1 : tk = 0) (h2 : ∀ p, p < N → sn p = 0) (h3 : ∀ p, p < N → ac p = 0) (h4 : ∀ j, j < M → st j ≠ 1) (hN0 : 0 < N) (hp : post 1 (nI N, nI M, sd, t, 1, nI h, tk, st, se, re, ac, sn, T)) : wpY_passToken post (nI N, nI M, sd, t, r, nI h, tk, st, se, re, ac, sn, T) := by
  unfold wpY_passToken
  subst h0
  refine br_f hsd (br_t hr ⟨vp_in_nI (by omega) (by decide), br_t ?_ (br_t nI_0 (br_t h1 (et_yact_n hN h3 (br_f et_n10 ⟨N + 1, et_y100_1 hN ⟨M + 1, et_y127_1 hM hp M 0 (by omega) (fun j _ => h4 j)⟩ N 0 (by omega) (fun j _ => h2 j)⟩))))⟩)
  rw [nI_clamp (by omega)]; exact h3 0 hN0
theorem et_yring_n (hN : N ≤ 8) (hM : M ≤ 32) (hsd : sd ≠ 0) (hr : r = 0) (h0 : h = 0) (ha : ac 0 = 0) (hx : tk ≠ 0 ∨ (∃ p, p < N ∧ sn p ≠ 0) ∨ (∃ p, p < N ∧ ac p ≠ 0) ∨ (∃ j, j < M ∧ st j = 1)) (hp : post 0 (nI N, nI M, sd, t, 0, nI N - 1, 0, st, se, re, ac, upd sn 0 0, T)) : wpY_passToken post (nI N, nI M, sd, t, r, nI h, tk, st, se, re, ac, sn, T) := by
  unfold wpY_passToken
  subst h0
  have q0 : ∃ n, wY_passToken_127 post (nI N) (nI M) sd t r (nI 0) tk st se re ac sn T n 0 0 := ⟨M + 1, et_y127_0 (h := 0) hM hp M 0 (by omega)⟩
  have g0 : ∃ n, wY_passToken_100 post (nI N) (nI M) sd t r (nI 0) tk st se re ac sn T n 0 0 := ⟨N + 1, et_y100_0 (h := 0) hN q0 N 0 (by omega)⟩
  refine br_f hsd (br_t hr ⟨vp_in_nI (by omega) (by decide), br_t (by rw [nI_clamp (by omega)]; exact ha) (br_t nI_0 (br_c (fun z => ?_) (fun _ => g0)))⟩)
  rcases et_first (fun j => ac j ≠ 0) N with hB | ⟨p, hpN, hB, -⟩
  · refine et_yact_n hN (fun j hj => Decidable.not_not.mp (hB j hj)) (br_f et_n10 ?_)
    rcases et_first (fun j => sn j ≠ 0) N with hA | ⟨p, hpN, hA, -⟩
    · rcases hx with hx | ⟨p, hpN, hx⟩ | ⟨p, hpN, hx⟩ | ⟨j, hj, hx⟩
      · exact absurd z hx
      · exact absurd hx (hA p hpN)
      · exact absurd hx (hB p hpN)
      · exact ⟨N + 1, et_y100_1 (h := 0) hN ⟨M + 1, et_y127_n (h := 0) hM hj hx hp M 0 (by omega) (by omega)⟩ N 0 (by omega) (fun j _ hj => Decidable.not_not.mp (hA j hj))⟩
    · exact ⟨N + 1, et_y100_n (h := 0) hN hpN hA q0 N 0 (by omega) (by omega)⟩
  · exact et_yact_s hN hpN hB (br_t rfl g0)
end ETK
section ETL
variable {N M h g : Nat} {sd an t r tk : Int32} {ac sn wd nd ns st se re T : Nat → Int32}
theorem et_xdown_0 {post : SX → Prop} (hg : g + 1 < 8) (h0 : sn (g + 1) = 0) (hp : post (nI N, nI M, sd, an, nI g, tk, ac, upd sn (g + 1) 0, wd, nd, ns, st, se, re)) : wpX_passTokenDown post (nI N, nI M, sd, an, nI (g + 1), tk, ac, sn, wd, nd, ns, st, se, re) := by
  unfold wpX_passTokenDown
  refine ⟨vp_in_nI (by omega) (by decide), br_t (by rw [nI_clamp (by omega)]; exact h0) ⟨vp_in_nI (by omega) (by decide), nm_r (by rw [nI_clamp (by omega), et_vb0]) (nm_r (nI_pred g) hp)⟩⟩
theorem et_xdown_1 {post : SX → Prop} (hg : g + 1 < 8) (h0 : sn (g + 1) ≠ 0) (hp : post (nI N, nI M, sd, an, nI g, 1, ac, upd sn (g + 1) 0, wd, nd, ns, st, se, re)) : wpX_passTokenDown post (nI N, nI M, sd, an, nI (g + 1), tk, ac, sn, wd, nd, ns, st, se, re) := by
  unfold wpX_passTokenDown
  refine ⟨vp_in_nI (by omega) (by decide), br_f (by rw [nI_clamp (by omega)]; exact h0) ⟨vp_in_nI (by omega) (by decide), nm_r (by rw [nI_clamp (by omega), et_vb0]) (nm_r (nI_pred g) hp)⟩⟩
/-- passToken on the class's side, a case each -/
theorem et_xp_ref {post : Int32 → SX → Prop} (ht : et_b t) (hr : et_b r) (hx : sd = 0 ∨ r ≠ 0) (hp : post (-4) (nI N, nI M, sd, et_an t r, nI h, tk, ac, sn, wd, nd, ns, st, se, re)) : wpX_passToken post (nI N, nI M, sd, et_an t r, nI h, tk, ac, sn, wd, nd, ns, st, se, re) := by
  unfold wpX_passToken
  refine br_c (fun _ => hp) (fun z => et_xA_t (fun y => ?_) (br_f et_n10 hp))
  exact hx.resolve_left z ((et_an2 ht hr).mp y)
theorem et_xp_busy {post : Int32 → SX → Prop} (ht : et_b t) (hr : et_b r) (hh : h < 8) (hsd : sd ≠ 0) (h1 : r = 0) (ha : ac h ≠ 0) (hp : post (-5) (nI N, nI M, sd, et_an t r, nI h, tk, ac, sn, wd, nd, ns, st, se, re)) : wpX_passToken post (nI N, nI M, sd, et_an t r, nI h, tk, ac, sn, wd, nd, ns, st, se, re) := by
  unfold wpX_passToken
  exact br_f hsd (et_xA_f ((et_an2 ht hr).mpr h1) (br_t rfl ⟨vp_in_nI hh (by decide), br_f (by rw [nI_clamp (by omega)]; exact ha) hp⟩))
theorem et_xp_down {post : Int32 → SX → Prop} (ht : et_b t) (hr : et_b r) (hg : g + 1 < 8) (hsd : sd ≠ 0) (h1 : r = 0) (ha : ac (g + 1) = 0) (hp : post 0 (nI N, nI M, sd, et_an t r, nI g, (if sn (g + 1) = 0 then tk else 1), ac, upd sn (g + 1) 0, wd, nd, ns, st, se, re)) : wpX_passToken post (nI N, nI M, sd, et_an t r, nI (g + 1), tk, ac, sn, wd, nd, ns, st, se, re) := by
  unfold wpX_passToken
  refine br_f hsd (et_xA_f ((et_an2 ht hr).mpr h1) (br_t rfl ⟨vp_in_nI hg (by decide), br_t (by rw [nI_clamp (by omega)]; exact ha) (br_f (nI_ne0 (by omega) (by omega)) ?_)⟩))
  by_cases hs : sn (g + 1) = 0
  · rw [if_pos hs] at hp
    exact et_xdown_0 hg hs hp
  · rw [if_neg hs] at hp
    exact et_xdown_1 hg hs hp
theorem et_xp_ring {post : Int32 → SX → Prop} (hN : N ≤ 8) (hM : M ≤ 32) (hN0 : 0 < N) (ht : et_b t) (hr : et_b r) (hsd : sd ≠ 0) (hr0 : r = 0) (h1 : tk = 0) (h2 : ∀ p, p < N → sn p = 0) (h3 : ∀ p, p < N → ac p = 0) (h4 : ∀ j, j < M → st j ≠ 1) (hp : post 1 (nI N, nI M, sd, et_an t 1, nI 0, tk, ac, sn, wd, nd, ns, st, se, re)) : wpX_passToken post (nI N, nI M, sd, et_an t r, nI 0, tk, ac, sn, wd, nd, ns, st, se, re) := by
  unfold wpX_passToken
  refine br_f hsd (et_xA_f ((et_an2 ht hr).mpr hr0) (br_t rfl ⟨vp_in_nI (by omega) (by decide), br_t (by rw [nI_clamp (by omega)]; exact h3 0 hN0) (br_t nI_0 (et_xring_y (h := 0) hN hM h1 h2 h3 h4 (br_f et_n10 (nm_r (et_or2 ht hr) hp))))⟩))
theorem et_xp_round {post : Int32 → SX → Prop} (hN : N ≤ 8) (hM : M ≤ 32) (ht : et_b t) (hr : et_b r) (hsd : sd ≠ 0) (hr0 : r = 0) (ha : ac 0 = 0) (hx : tk ≠ 0 ∨ (∃ p, p < N ∧ sn p ≠ 0) ∨ (∃ p, p < N ∧ ac p ≠ 0) ∨ (∃ j, j < M ∧ st j = 1)) (hp : post 0 (nI N, nI M, sd, et_an t r, nI N - 1, 0, ac, upd sn 0 0, wd, nd, ns, st, se, re)) : wpX_passToken post (nI N, nI M, sd, et_an t r, nI 0, tk, ac, sn, wd, nd, ns, st, se, re) := by
  unfold wpX_passToken
  refine br_f hsd (et_xA_f ((et_an2 ht hr).mpr hr0) (br_t rfl ⟨vp_in_nI (by omega) (by decide), br_t (by rw [nI_clamp (by omega)]; exact ha) (br_t nI_0 (et_xring_n (h := 0) hN hM hx (br_t rfl ?_)))⟩))
  unfold wpX_sendTokenRound
  exact nm_r (by rw [et_vb0]) (nm_e hp)
/-- passToken on both sides -/
theorem et_pass (hN0 : 2 ≤ N) (hN : N ≤ 8) (hM : M ≤ 32) (hh : h < N) (ht : et_b t) (hr : et_b r) : ∃ (rr : Int32) (h' : Nat) (r' tk' : Int32) (sn' : Nat → Int32), h' < N ∧ et_b r' ∧ (∀ post : Int32 → SX → Prop, post rr (nI N, nI M, sd, et_an t r', nI h', tk', ac, sn', wd, nd, ns, st, se, re) → wpX_passToken post (nI N, nI M, sd, et_an t r, nI h, tk, ac, sn, wd, nd, ns, st, se, re)) ∧ (∀ post : Int32 → SY → Prop, post rr (nI N, nI M, sd, t, r', nI h', tk', st, se, re, ac, sn', T) → wpY_passToken post (nI N, nI M, sd, t, r, nI h, tk, st, se, re, ac, sn, T)) := by
  by_cases hsd : sd = 0
  · refine ⟨-4, h, r, tk, sn, hh, hr, fun post hp => et_xp_ref ht hr (Or.inl hsd) hp, fun post hp => ?_⟩
    unfold wpY_passToken
    exact br_t hsd hp
  · by_cases hr0 : r = 0
    · by_cases ha : ac h = 0
      · by_cases h0 : h = 0
        · subst h0
          have eN : nI N - 1 = nI (N - 1) := by
            obtain ⟨m, rfl⟩ : ∃ m, N = m + 1 := ⟨N - 1, by omega⟩
            exact nI_pred m
          by_cases hq : tk = 0 ∧ (∀ p, p < N → sn p = 0) ∧ (∀ p, p < N → ac p = 0) ∧ (∀ j, j < M → st j ≠ 1)
          · obtain ⟨h1, h2, h3, h4⟩ := hq
            exact ⟨1, 0, 1, tk, sn, hh, et_b1, fun post hp => et_xp_ring hN hM hh ht hr hsd hr0 h1 h2 h3 h4 hp, fun post hp => et_yring_y (h := 0) hN hM hsd hr0 rfl h1 h2 h3 h4 hh hp⟩
          · have hx : tk ≠ 0 ∨ (∃ p, p < N ∧ sn p ≠ 0) ∨ (∃ p, p < N ∧ ac p ≠ 0) ∨ (∃ j, j < M ∧ st j = 1) := by
              by_cases h1 : tk = 0
              · rcases et_first (fun j => sn j ≠ 0) N with h2 | ⟨p, hpN, hA, -⟩
                · rcases et_first (fun j => ac j ≠ 0) N with h3 | ⟨p, hpN, hA, -⟩
                  · rcases et_first (fun j => st j = 1) M with h4 | ⟨p, hpN, hA, -⟩
                    · exact absurd ⟨h1, fun j hj => Decidable.not_not.mp (h2 j hj), fun j hj => Decidable.not_not.mp (h3 j hj), h4⟩ hq
                    · exact Or.inr (Or.inr (Or.inr ⟨p, hpN, hA⟩))
                  · exact Or.inr (Or.inr (Or.inl ⟨p, hpN, hA⟩))
                · exact Or.inr (Or.inl ⟨p, hpN, hA⟩)
              · exact Or.inl h1
            refine ⟨0, N - 1, r, 0, upd sn 0 0, by omega, hr, fun post hp => ?_, fun post hp => ?_⟩
            · rw [← eN] at hp
              exact et_xp_round hN hM ht hr hsd hr0 ha hx hp
            · rw [← eN] at hp
              subst hr0
              exact et_yring_n (h := 0) hN hM hsd rfl rfl ha hx hp
        · obtain ⟨g, rfl⟩ : ∃ g, h = g + 1 := ⟨h - 1, by omega⟩
          refine ⟨0, g, r, (if sn (g + 1) = 0 then tk else 1), upd sn (g + 1) 0, by omega, hr, fun post hp => et_xp_down ht hr (by omega) hsd hr0 ha hp, fun post hp => ?_⟩
          unfold wpY_passToken
          have hv : vp_in (nI (g + 1)) 8 := vp_in_nI (by omega) (by decide)
          have hc := nI_clamp (show g + 1 < 2 ^ 31 by omega)
          refine br_f hsd (br_t hr0 ⟨hv, br_t (by rw [hc]; exact ha) (br_f (nI_ne0 (by omega) (by omega)) ⟨hv, ?_⟩)⟩)
          by_cases hs : sn (g + 1) = 0
          · rw [if_pos hs] at hp
            exact br_t (by rw [hc]; exact hs) ⟨hv, nm_r (by rw [hc, et_vb0]) (nm_r (nI_pred g) hp)⟩
          · rw [if_neg hs] at hp
            exact br_f (by rw [hc]; exact hs) ⟨hv, nm_r (by rw [hc, et_vb0]) (nm_r (nI_pred g) hp)⟩
      · refine ⟨-5, h, r, tk, sn, hh, hr, fun post hp => et_xp_busy ht hr (by omega) hsd hr0 ha hp, fun post hp => ?_⟩
        unfold wpY_passToken
        exact br_f hsd (br_t hr0 ⟨vp_in_nI (by omega) (by decide), br_f (by rw [nI_clamp (by omega)]; exact ha) hp⟩)
    · refine ⟨-4, h, r, tk, sn, hh, hr, fun post hp => et_xp_ref ht hr (Or.inr hr0) hp, fun post hp => ?_⟩
      unfold wpY_passToken
      exact br_f hsd (br_f hr0 hp)
end ETL
theorem i_vc_passToken {k : Nat} {u : SX} {v : SY} (I : i_Rel k u v) (hk : k + 3 ≤ 1538) : wpX_passToken (fun r u' => wpY_passToken (fun r' v' => r' = r ∧ i_Rel (k + 3) u' v') v) u := by
  obtain ⟨N, M, h, sd, t, r, tk, ac, sn, wd, nd, ns, st, se, re, T, rfl, rfl, ok, inv⟩ := I
  obtain ⟨n1, n2, m1, m2, hh, ht, hr, hT⟩ := ok
  obtain ⟨rr, h', r', tk', sn', hh', hr', hX, hY⟩ := et_pass (sd := sd) (tk := tk) (ac := ac) (sn := sn) (wd := wd) (nd := nd) (ns := ns) (st := st) (se := se) (re := re) (T := T) n1 n2 m2 hh ht hr
  exact hX _ (hY _ ⟨rfl, et_R ⟨n1, n2, m1, m2, hh', ht, hr', hT⟩ inv⟩)
