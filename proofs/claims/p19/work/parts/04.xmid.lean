section ETH
/-- engaged -/
def et_eng (M : Nat) (sd t : Int32) (st re : Nat → Int32) (p : Nat) : Prop :=
  (p = 0 ∧ sd ≠ 0 ∧ t = 0) ∨ (p ≠ 0 ∧ ∃ j, j < M ∧ st j = 2 ∧ re j = nI p)
variable {N M h : Nat} {sd an tk t r : Int32} {ac sn wd nd ns st se re : Nat → Int32}
theorem et_xhome_y {post : St2 → Prop} {p s : Nat} (hN : N ≤ 8) (hM : M ≤ 32) (hpN : p < N) (hs : s < M) (h2 : st s = 2) (hr : re s = nI p) (hn : ∀ j, j < s → ¬ (st j = 2 ∧ re j = nI p)) (ha : ac p = 0) (hd : et_cn st se (nI p) M = 0) (hp : post (nI N, nI M, sd, an, nI h, tk, ac, sn, wd, nd, ns, upd st s 3, se, re)) : wpX_comeHome post (nI N, nI M, sd, an, nI h, tk, ac, sn, wd, nd, ns, st, se, re) (nI p) := by
  unfold wpX_comeHome
  refine et_xheld_s hM hs h2 hr hn (br_f (et_m1 (by omega)) ⟨vp_in_nI (by omega) (by decide), br_t ?_ (et_xun hM (br_t ?_ ⟨vp_in_nI (by omega) (by decide), nm_r (by rw [nI_clamp (by omega)]) hp⟩))⟩)
  · rw [nI_clamp (by omega)]; exact ha
  · rw [hd]; exact nI_0
theorem et_xhome_n {post : St2 → Prop} {p : Nat} (hN : N ≤ 8) (hM : M ≤ 32) (hpN : p < N) (hx : (∀ j, j < M → ¬ (st j = 2 ∧ re j = nI p)) ∨ ac p ≠ 0 ∨ et_cn st se (nI p) M ≠ 0) (hp : post (nI N, nI M, sd, an, nI h, tk, ac, sn, wd, nd, ns, st, se, re)) : wpX_comeHome post (nI N, nI M, sd, an, nI h, tk, ac, sn, wd, nd, ns, st, se, re) (nI p) := by
  unfold wpX_comeHome
  rcases et_first (fun j => st j = 2 ∧ re j = nI p) M with h0 | ⟨s, hs, ⟨h2, hr⟩, hn⟩
  · exact et_xheld_n hM h0 (br_t rfl hp)
  · have hx' := hx.resolve_left (fun z => z s hs ⟨h2, hr⟩)
    refine et_xheld_s hM hs h2 hr hn (br_f (et_m1 (by omega)) ⟨vp_in_nI (by omega) (by decide), br_c (fun z => et_xun hM (br_f ?_ hp)) (fun _ => hp)⟩)
    rw [nI_clamp (by omega)] at z
    have hc := hx'.resolve_left (fun y => y z)
    exact nI_ne0 (Nat.pos_of_ne_zero hc) (by have := et_cn_le st se (nI p) M; omega)
theorem et_xtree_y {post : St2 → Prop} (hN : N ≤ 8) (hM : M ≤ 32) (hsd : sd ≠ 0) (hA : ∀ p, p < N → ac p = 0) (hF : ∀ j, j < M → st j = 0) (hp : post (nI N, nI M, sd, an ||| 1, nI h, tk, ac, sn, wd, nd, ns, st, se, re)) : wpX_applyTreeRule post (nI N, nI M, sd, an, nI h, tk, ac, sn, wd, nd, ns, st, se, re) :=
  br_f hsd (et_xact_n hN hA (br_t rfl (et_xfree_y hM hF (br_f et_n10 (nm_e hp)))))
theorem et_xtree_n {post : St2 → Prop} (hN : N ≤ 8) (hM : M ≤ 32) (hx : sd = 0 ∨ (∃ p, p < N ∧ ac p ≠ 0) ∨ (∃ j, j < M ∧ st j ≠ 0)) (hp : post (nI N, nI M, sd, an, nI h, tk, ac, sn, wd, nd, ns, st, se, re)) : wpX_applyTreeRule post (nI N, nI M, sd, an, nI h, tk, ac, sn, wd, nd, ns, st, se, re) := by
  by_cases h0 : sd = 0
  · exact br_t h0 hp
  · refine br_f h0 ?_
    rcases et_first (fun j => ac j ≠ 0) N with hA | ⟨p, hpN, hA, -⟩
    · have hA' : ∀ j, j < N → ac j = 0 := fun j hj => Decidable.not_not.mp (hA j hj)
      rcases hx.resolve_left h0 with ⟨p, hpN, hy⟩ | ⟨s, hs, hy⟩
      · exact absurd hy (hA p hpN)
      · exact et_xact_n hN hA' (br_t rfl (et_xfree_n hM hs hy (br_t rfl hp)))
    · exact et_xact_s hN hpN hA (br_f et_n10 hp)
theorem et_xeng_t {post : Int32 → Prop} {q : Nat} (hN : N ≤ 8) (hM : M ≤ 32) (hq : q < N) (ht : et_b t) (hr : et_b r) (he : et_eng M sd t st re q) (hp : post 1) : wpX_isEngaged post (nI N, nI M, sd, et_an t r, nI h, tk, ac, sn, wd, nd, ns, st, se, re) (nI q) := by
  unfold wpX_isEngaged
  rcases he with ⟨rfl, h1, h2⟩ | ⟨h0, j, hj, h2, h3⟩
  · exact br_t nI_0 (br_f h1 (et_xA_f ((et_an1 ht hr).mpr h2) (br_t rfl hp)))
  · refine br_f (nI_ne0 (Nat.pos_of_ne_zero h0) (by omega)) ?_
    rcases et_first (fun j => st j = 2 ∧ re j = nI q) M with g0 | ⟨s, hs, ⟨g2, gr⟩, gn⟩
    · exact absurd ⟨h2, h3⟩ (g0 j hj)
    · exact et_xheld_s hM hs g2 gr gn (br_f (et_m1 (by omega)) hp)
theorem et_xeng_f {post : Int32 → Prop} {q : Nat} (hN : N ≤ 8) (hM : M ≤ 32) (hq : q < N) (ht : et_b t) (hr : et_b r) (he : ¬ et_eng M sd t st re q) (hp : post 0) : wpX_isEngaged post (nI N, nI M, sd, et_an t r, nI h, tk, ac, sn, wd, nd, ns, st, se, re) (nI q) := by
  unfold wpX_isEngaged
  by_cases h0 : q = 0
  · subst h0
    refine br_t nI_0 (br_c (fun _ => hp) (fun h1 => et_xA_t ?_ (br_f et_n10 hp)))
    exact fun z => he (Or.inl ⟨rfl, h1, (et_an1 ht hr).mp z⟩)
  · exact br_f (nI_ne0 (Nat.pos_of_ne_zero h0) (by omega)) (et_xheld_n hM (fun j hj z => he (Or.inr ⟨h0, j, hj, z.1, z.2⟩)) (br_t rfl hp))
theorem et_xring_y {post : Int32 → Prop} (hN : N ≤ 8) (hM : M ≤ 32) (h1 : tk = 0) (h2 : ∀ p, p < N → sn p = 0) (h3 : ∀ p, p < N → ac p = 0) (h4 : ∀ j, j < M → st j ≠ 1) (hp : post 1) : wpX_ringFoundQuiet post (nI N, nI M, sd, an, nI h, tk, ac, sn, wd, nd, ns, st, se, re) :=
  br_t h1 (et_xstn_n hN h2 (br_t rfl (et_xact_n hN h3 (br_t rfl (et_xlow_n hM h4 (br_t rfl hp))))))
theorem et_xring_n {post : Int32 → Prop} (hN : N ≤ 8) (hM : M ≤ 32) (hx : tk ≠ 0 ∨ (∃ p, p < N ∧ sn p ≠ 0) ∨ (∃ p, p < N ∧ ac p ≠ 0) ∨ (∃ j, j < M ∧ st j = 1)) (hp : post 0) : wpX_ringFoundQuiet post (nI N, nI M, sd, an, nI h, tk, ac, sn, wd, nd, ns, st, se, re) := by
  by_cases h1 : tk = 0
  · refine br_t h1 ?_
    rcases et_first (fun j => sn j ≠ 0) N with hA | ⟨p, hpN, hA, -⟩
    · refine et_xstn_n hN (fun j hj => Decidable.not_not.mp (hA j hj)) (br_t rfl ?_)
      rcases et_first (fun j => ac j ≠ 0) N with hB | ⟨p, hpN, hB, -⟩
      · refine et_xact_n hN (fun j hj => Decidable.not_not.mp (hB j hj)) (br_t rfl ?_)
        rcases et_first (fun j => st j = 1) M with hC | ⟨s, hs, hC, hn⟩
        · rcases hx with hx | ⟨p, hpN, hx⟩ | ⟨p, hpN, hx⟩ | ⟨j, hj, hx⟩
          · exact absurd h1 hx
          · exact absurd hx (hA p hpN)
          · exact absurd hx (hB p hpN)
          · exact absurd hx (hC j hj)
        · exact et_xlow_s hM hs hC hn (br_f (et_m1 (by omega)) hp)
      · exact et_xact_s hN hpN hB (br_f et_n10 hp)
    · exact et_xstn_s hN hpN hA (br_f et_n10 hp)
  · exact br_f h1 hp
end ETH
