section ETL
variable {N M h g : Nat} {sd an t r tk : Int32} {ac sn wd nd ns st se re : Nat → Int32}
theorem et_xdown_0 {post : St2 → Prop} (hg : g + 1 < 8) (h0 : sn (g + 1) = 0) (hp : post (nI N, nI M, sd, an, nI g, tk, ac, upd sn (g + 1) 0, wd, nd, ns, st, se, re)) : wpX_passTokenDown post (nI N, nI M, sd, an, nI (g + 1), tk, ac, sn, wd, nd, ns, st, se, re) := by
  unfold wpX_passTokenDown
  refine ⟨vp_in_nI (by omega) (by decide), br_t (by rw [nI_clamp (by omega)]; exact h0) ⟨vp_in_nI (by omega) (by decide), nm_r (by rw [nI_clamp (by omega)]) (nm_r (nI_pred g) hp)⟩⟩
theorem et_xdown_1 {post : St2 → Prop} (hg : g + 1 < 8) (h0 : sn (g + 1) ≠ 0) (hp : post (nI N, nI M, sd, an, nI g, 1, ac, upd sn (g + 1) 0, wd, nd, ns, st, se, re)) : wpX_passTokenDown post (nI N, nI M, sd, an, nI (g + 1), tk, ac, sn, wd, nd, ns, st, se, re) := by
  unfold wpX_passTokenDown
  refine ⟨vp_in_nI (by omega) (by decide), br_f (by rw [nI_clamp (by omega)]; exact h0) ⟨vp_in_nI (by omega) (by decide), nm_r (by rw [nI_clamp (by omega)]) (nm_r (nI_pred g) hp)⟩⟩
/-- passToken on the class's side, a case each -/
theorem et_xp_ref {post : Int32 → St2 → Prop} (ht : et_b t) (hr : et_b r) (hx : sd = 0 ∨ r ≠ 0) (hp : post (-4) (nI N, nI M, sd, et_an t r, nI h, tk, ac, sn, wd, nd, ns, st, se, re)) : wpX_passToken post (nI N, nI M, sd, et_an t r, nI h, tk, ac, sn, wd, nd, ns, st, se, re) := by
  unfold wpX_passToken
  refine br_c (fun _ => hp) (fun z => et_xA_t (fun y => ?_) (br_f et_n10 hp))
  exact hx.resolve_left z ((et_an2 ht hr).mp y)
theorem et_xp_busy {post : Int32 → St2 → Prop} (ht : et_b t) (hr : et_b r) (hh : h < 8) (hsd : sd ≠ 0) (h1 : r = 0) (ha : ac h ≠ 0) (hp : post (-5) (nI N, nI M, sd, et_an t r, nI h, tk, ac, sn, wd, nd, ns, st, se, re)) : wpX_passToken post (nI N, nI M, sd, et_an t r, nI h, tk, ac, sn, wd, nd, ns, st, se, re) := by
  unfold wpX_passToken
  exact br_f hsd (et_xA_f ((et_an2 ht hr).mpr h1) (br_t rfl ⟨vp_in_nI hh (by decide), br_f (by rw [nI_clamp (by omega)]; exact ha) hp⟩))
theorem et_xp_down {post : Int32 → St2 → Prop} (ht : et_b t) (hr : et_b r) (hg : g + 1 < 8) (hsd : sd ≠ 0) (h1 : r = 0) (ha : ac (g + 1) = 0) (hp : post 0 (nI N, nI M, sd, et_an t r, nI g, (if sn (g + 1) = 0 then tk else 1), ac, upd sn (g + 1) 0, wd, nd, ns, st, se, re)) : wpX_passToken post (nI N, nI M, sd, et_an t r, nI (g + 1), tk, ac, sn, wd, nd, ns, st, se, re) := by
  unfold wpX_passToken
  refine br_f hsd (et_xA_f ((et_an2 ht hr).mpr h1) (br_t rfl ⟨vp_in_nI hg (by decide), br_t (by rw [nI_clamp (by omega)]; exact ha) (br_f (nI_ne0 (by omega) (by omega)) ?_)⟩))
  by_cases hs : sn (g + 1) = 0
  · rw [if_pos hs] at hp
    exact et_xdown_0 hg hs hp
  · rw [if_neg hs] at hp
    exact et_xdown_1 hg hs hp
theorem et_xp_ring {post : Int32 → St2 → Prop} (hN : N ≤ 8) (hM : M ≤ 32) (hN0 : 0 < N) (ht : et_b t) (hr : et_b r) (hsd : sd ≠ 0) (hr0 : r = 0) (h1 : tk = 0) (h2 : ∀ p, p < N → sn p = 0) (h3 : ∀ p, p < N → ac p = 0) (h4 : ∀ j, j < M → st j ≠ 1) (hp : post 1 (nI N, nI M, sd, et_an t 1, nI 0, tk, ac, sn, wd, nd, ns, st, se, re)) : wpX_passToken post (nI N, nI M, sd, et_an t r, nI 0, tk, ac, sn, wd, nd, ns, st, se, re) := by
  unfold wpX_passToken
  refine br_f hsd (et_xA_f ((et_an2 ht hr).mpr hr0) (br_t rfl ⟨vp_in_nI (by omega) (by decide), br_t (by rw [nI_clamp (by omega)]; exact h3 0 hN0) (br_t nI_0 (et_xring_y (h := 0) hN hM h1 h2 h3 h4 (br_f et_n10 (nm_r (et_or2 ht hr) hp))))⟩))
theorem et_xp_round {post : Int32 → St2 → Prop} (hN : N ≤ 8) (hM : M ≤ 32) (ht : et_b t) (hr : et_b r) (hsd : sd ≠ 0) (hr0 : r = 0) (ha : ac 0 = 0) (hx : tk ≠ 0 ∨ (∃ p, p < N ∧ sn p ≠ 0) ∨ (∃ p, p < N ∧ ac p ≠ 0) ∨ (∃ j, j < M ∧ st j = 1)) (hp : post 0 (nI N, nI M, sd, et_an t r, nI N - 1, 0, ac, upd sn 0 0, wd, nd, ns, st, se, re)) : wpX_passToken post (nI N, nI M, sd, et_an t r, nI 0, tk, ac, sn, wd, nd, ns, st, se, re) := by
  unfold wpX_passToken
  refine br_f hsd (et_xA_f ((et_an2 ht hr).mpr hr0) (br_t rfl ⟨vp_in_nI (by omega) (by decide), br_t (by rw [nI_clamp (by omega)]; exact ha) (br_t nI_0 (et_xring_n (h := 0) hN hM hx (br_t rfl ?_)))⟩))
  unfold wpX_sendTokenRound
  exact nm_e (nm_e hp)
end ETL
section ETS
variable {N M h : Nat} {sd an t r tk : Int32} {ac sn wd nd ns st se re : Nat → Int32}
-- start, the class's loop
theorem et_xst_l {post : Int32 → St2 → Prop} (hN : N ≤ 8) (hp : post 0 (nI N, nI M, 1, 0, 0, 1, et_ca ac N, et_cl sn N, et_cl wd N, et_cl nd N, et_cl ns N, st, se, re)) : ∀ d i, i + d = N → wX_start_20 post (nI N) (nI M) sd an (nI h) tk (d + 1) (nI i) (et_ca ac i) (et_cl sn i) (et_cl wd i) (et_cl nd i) (et_cl ns i) st se re := by
  intro d
  induction d with
  | zero =>
    intro i hi
    have e : i = N := by omega
    subst e
    exact br_t (nI_le (by omega) (by omega)) hp
  | succ d ih =>
    intro i hi
    have hv : vp_in (nI i) 8 := vp_in_nI (by omega) (by decide)
    have hc := nI_clamp (show i < 2 ^ 31 by omega)
    have key : ∀ z0 : Int32, vp_nar .boolean z0 = (if i = 0 then 1 else 0) → wX_start_42 post (wX_start_20 post (nI N) (nI M) sd an (nI h) tk (d + 1)) (nI i) z0 (nI i) (nI N) (nI M) sd an (nI h) tk (et_ca ac i) (et_cl sn i) (et_cl wd i) (et_cl nd i) (et_cl ns i) st se re := by
      intro z0 hz
      refine ⟨hv, nm_r (e' := et_ca ac (i + 1)) (by rw [hc, hz]; rfl) ⟨hv, nm_r (e' := et_cl sn (i + 1)) (by rw [hc]; rfl) ⟨hv, nm_r (e' := et_cl wd (i + 1)) (by rw [hc]; rfl) ⟨hv, nm_r (e' := et_cl nd (i + 1)) (by rw [hc]; rfl) ⟨hv, nm_r (e' := et_cl ns (i + 1)) (by rw [hc]; rfl) (nm_r (nI_1 i) (ih (i + 1) (by omega)))⟩⟩⟩⟩⟩
    refine br_f (nI_ge (by omega) (by omega)) (br_c (fun z => key 1 ?_) (fun z => key 0 ?_))
    · rw [if_pos ((nI_eq (by omega) (by decide)).mp z)]; exact et_vb1
    · rw [if_neg (fun y => z (by rw [y]; exact nI_0))]; exact et_vb0
end ETS
