section EMC
/-- how many passes of the token are still wanted in a quiet state: at most d -/
def ej_P (N d h : Nat) (r tk : Int32) (sn : Nat → Int32) : Prop :=
  r ≠ 0 ∨ h + 2 * N + 1 ≤ d ∨ ((∀ p, p < N → (p = 0 ∨ h < p) → sn p = 0) ∧ h + N + 1 ≤ d) ∨ ((∀ p, p < N → sn p = 0) ∧ tk = 0 ∧ h + 1 ≤ d)
variable {N M h : Nat} {sd t r tk : Int32} {ac sn wd nd ns st se re : Nat → Int32} {q : Prop}
theorem ej_xpass (hN0 : 2 ≤ N) (hN : N ≤ 8) (hM : M ≤ 32) (hh : h < N) (ht : et_b t) (hr : et_b r) (hJ : ej_J N M sd t r ac st se re nd ns) : ∃ (rr : Int32) (h' : Nat) (r' tk' : Int32) (sn' : Nat → Int32), h' < N ∧ et_b r' ∧ (r ≠ 0 → r' ≠ 0) ∧ ej_J N M sd t r' ac st se re nd ns ∧ (rr ≠ 0 → sd ≠ 0 → ej_q N M ac st → r' ≠ 0) ∧ (∀ d, rr = 0 → ej_q N M ac st → ej_P N (d + 1) h r tk sn → ej_P N d h' r' tk' sn') ∧ (∀ post : Int32 → St2 → Prop, post rr (nI N, nI M, sd, et_an t r', nI h', tk', ac, sn', wd, nd, ns, st, se, re) → wpX_passToken post (nI N, nI M, sd, et_an t r, nI h, tk, ac, sn, wd, nd, ns, st, se, re)) := by
  by_cases hsd : sd = 0
  · exact ⟨-4, h, r, tk, sn, hh, hr, id, hJ, fun _ z => absurd hsd z, fun _ z _ => absurd z (by decide), fun post hp => et_xp_ref ht hr (Or.inl hsd) hp⟩
  · by_cases hr0 : r = 0
    · by_cases ha : ac h = 0
      · by_cases h0 : h = 0
        · subst h0
          have eN : nI N - 1 = nI (N - 1) := by
            obtain ⟨m, rfl⟩ : ∃ m, N = m + 1 := ⟨N - 1, by omega⟩
            exact nI_pred m
          by_cases hz : tk = 0 ∧ (∀ p, p < N → sn p = 0) ∧ (∀ p, p < N → ac p = 0) ∧ (∀ j, j < M → st j ≠ 1)
          · obtain ⟨h1, h2, h3, h4⟩ := hz
            exact ⟨1, 0, 1, tk, sn, hh, et_b1, fun _ => et_n10, ej_ring hJ ⟨h3, h4⟩ 1, fun _ _ _ => et_n10, fun _ z _ => absurd z et_n10, fun post hp => et_xp_ring hN hM hh ht hr hsd hr0 h1 h2 h3 h4 hp⟩
          · have hx : tk ≠ 0 ∨ (∃ p, p < N ∧ sn p ≠ 0) ∨ (∃ p, p < N ∧ ac p ≠ 0) ∨ (∃ j, j < M ∧ st j = 1) := by
              by_cases h1 : tk = 0
              · rcases et_first (fun j => sn j ≠ 0) N with h2 | ⟨p, hpN, hA, -⟩
                · rcases et_first (fun j => ac j ≠ 0) N with h3 | ⟨p, hpN, hA, -⟩
                  · rcases et_first (fun j => st j = 1) M with h4 | ⟨p, hpN, hA, -⟩
                    · exact absurd ⟨h1, fun j hj => Decidable.not_not.mp (h2 j hj), fun j hj => Decidable.not_not.mp (h3 j hj), h4⟩ hz
                    · exact Or.inr (Or.inr (Or.inr ⟨p, hpN, hA⟩))
                  · exact Or.inr (Or.inr (Or.inl ⟨p, hpN, hA⟩))
                · exact Or.inr (Or.inl ⟨p, hpN, hA⟩)
              · exact Or.inl h1
            refine ⟨0, N - 1, r, 0, upd sn 0 0, by omega, hr, id, hJ, fun z => absurd rfl z, fun d _ hqq hP => ?_, fun post hp => ?_⟩
            · rcases hP with hP | hP | ⟨hP, hd⟩ | ⟨hP, hk, hd⟩
              · exact absurd hr0 hP
              · refine Or.inr (Or.inr (Or.inl ⟨fun p hpN hp => ?_, by omega⟩))
                rcases hp with hp | hp
                · subst hp; exact pk_us
                · omega
              · have hall : ∀ p, p < N → sn p = 0 := fun p hpN => hP p hpN (by omega)
                refine Or.inr (Or.inr (Or.inr ⟨fun p hpN => ?_, rfl, by omega⟩))
                by_cases e : p = 0
                · subst e; exact pk_us
                · rw [pk_un e]; exact hall p hpN
              · exact absurd ⟨hk, hP, hqq.1, hqq.2⟩ hz
            · rw [← eN] at hp
              exact et_xp_round hN hM ht hr hsd hr0 ha hx hp
        · obtain ⟨g, rfl⟩ : ∃ g, h = g + 1 := ⟨h - 1, by omega⟩
          refine ⟨0, g, r, (if sn (g + 1) = 0 then tk else 1), upd sn (g + 1) 0, by omega, hr, id, hJ, fun z => absurd rfl z, fun d _ hqq hP => ?_, fun post hp => et_xp_down ht hr (by omega) hsd hr0 ha hp⟩
          rcases hP with hP | hP | ⟨hP, hd⟩ | ⟨hP, hk, hd⟩
          · exact Or.inl hP
          · exact Or.inr (Or.inl (by omega))
          · refine Or.inr (Or.inr (Or.inl ⟨fun p hpN hp => ?_, by omega⟩))
            by_cases e : p = g + 1
            · subst e; exact pk_us
            · rw [pk_un e]; exact hP p hpN (by omega)
          · refine Or.inr (Or.inr (Or.inr ⟨fun p hpN => ?_, ?_, by omega⟩))
            · by_cases e : p = g + 1
              · subst e; exact pk_us
              · rw [pk_un e]; exact hP p hpN
            · rw [if_pos (hP (g + 1) hh)]; exact hk
      · exact ⟨-5, h, r, tk, sn, hh, hr, id, hJ, fun _ _ z => absurd (z.1 h hh) ha, fun _ z _ => absurd z (by decide), fun post hp => et_xp_busy ht hr (by omega) hsd hr0 ha hp⟩
    · exact ⟨-4, h, r, tk, sn, hh, hr, id, hJ, fun _ _ _ => hr0, fun _ z _ => absurd z (by decide), fun post hp => et_xp_ref ht hr (Or.inr hr0) hp⟩
end EMC
section EMD
variable {N M h : Nat} {sd t r tk : Int32} {ac sn wd nd ns st se re : Nat → Int32} {q : Prop}
theorem ej_mpass (hN0 : 2 ≤ N) (hN : N ≤ 8) (hM : M ≤ 32) {u : St2} (g : ej_G N M sd q u) {post : Int32 → St2 → Prop} (hp : ∀ rr u', ej_G N M sd q u' → post rr u') : wpX_passToken post u := by
  obtain ⟨h, t, r, tk, ac, sn, wd, nd, ns, st, se, re, rfl, hh, ht, hr, hJ, hq⟩ := g
  obtain ⟨rr, h', r', tk', sn', hh', hr', rt, J', -, -, hX⟩ := ej_xpass (tk := tk) (sn := sn) (wd := wd) hN0 hN hM hh ht hr hJ
  exact hX _ (hp _ _ (ej_GI hh' ht hr' J' (fun z => (hq z).imp id rt)))
theorem ej_3n (N : Nat) : (3 : Int32) * nI N = nI (3 * N) := pk_mul 3 N
/-- the second part of settle -/
theorem ej_set2 (hN0 : 2 ≤ N) (hN : N ≤ 8) (hM : M ≤ 32) (ht : et_b t) : ∀ (d i h : Nat) (r tk : Int32) (sn : Nat → Int32), i + d = 3 * N → h < N → et_b r → ej_J N M sd t r ac st se re nd ns → ∃ (h' : Nat) (r' tk' : Int32) (sn' : Nat → Int32), h' < N ∧ et_b r' ∧ (r ≠ 0 → r' ≠ 0) ∧ ej_J N M sd t r' ac st se re nd ns ∧ (sd ≠ 0 → ej_q N M ac st → ej_P N d h r tk sn → r' ≠ 0) ∧ (∀ post : Int32 → St2 → Prop, post (et_an t r') (nI N, nI M, sd, et_an t r', nI h', tk', ac, sn', wd, nd, ns, st, se, re) → wX_settle_45 post (nI (3 * N)) (d + 1) (nI i) (nI N) (nI M) sd (et_an t r) (nI h) tk ac sn wd nd ns st se re) := by
  intro d
  induction d with
  | zero =>
    intro i h r tk sn hi hh hr hJ
    refine ⟨h, r, tk, sn, hh, hr, id, hJ, fun _ _ hP => ?_, fun post hp => br_t (nI_le (by omega) (by omega)) hp⟩
    rcases hP with hP | hP | ⟨-, hP⟩ | ⟨-, -, hP⟩
    · exact hP
    · omega
    · omega
    · omega
  | succ d ih =>
    intro i h r tk sn hi hh hr hJ
    obtain ⟨rr, h1, r1, tk1, sn1, hh1, hr1, rt1, J1, q1, p1, hX⟩ := ej_xpass (tk := tk) (sn := sn) (wd := wd) hN0 hN hM hh ht hr hJ
    by_cases h0 : rr = 0
    · subst h0
      obtain ⟨h', r', tk', sn', hh', hr', rt', J', q', gX⟩ := ih (i + 1) h1 r1 tk1 sn1 (by omega) hh1 hr1 J1
      exact ⟨h', r', tk', sn', hh', hr', fun z => rt' (rt1 z), J', fun a b c => q' a b (p1 d rfl b c), fun post hp => br_f (nI_ge (by omega) (by omega)) (hX _ (br_t rfl (nm_r (nI_1 i) (gX post hp))))⟩
    · exact ⟨h1, r1, tk1, sn1, hh1, hr1, rt1, J1, fun a b _ => q1 h0 a b, fun post hp => br_f (nI_ge (by omega) (by omega)) (hX _ (br_f h0 hp))⟩
/-- the first part of settle -/
theorem ej_set1 (hN : N ≤ 8) (hM : M ≤ 32) (hr : et_b r) : ∀ (d i : Nat) (t : Int32) (st : Nat → Int32), i + d = M → et_b t → ej_J N M sd t r ac st se re nd ns → ∃ (t' : Int32) (st' : Nat → Int32), et_b t' ∧ (t ≠ 0 → t' ≠ 0) ∧ ej_J N M sd t' r ac st' se re nd ns ∧ (∀ j, st' j = 1 ↔ st j = 1) ∧ (ej_nf st M ≤ d → ∀ j, j < M → st' j ≠ 3) ∧ (∀ post : Int32 → St2 → Prop, (∃ n, wX_settle_45 post (nI (3 * N)) n 0 (nI N) (nI M) sd (et_an t' r) (nI h) tk ac sn wd nd ns st' se re) → wX_settle_2 post (d + 1) (nI i) (nI N) (nI M) sd (et_an t r) (nI h) tk ac sn wd nd ns st se re) := by
  intro d
  induction d with
  | zero =>
    intro i t st hi ht hJ
    refine ⟨t, st, ht, id, hJ, fun _ => Iff.rfl, fun hz j hj => ?_, fun post hp => br_t (nI_le (by omega) (by omega)) (nm_r (ej_3n N) hp)⟩
    rw [ej_nf_0 (st := st) M (by omega) j hj]; decide
  | succ d ih =>
    intro i t st hi ht hJ
    rcases et_first (fun j => st j = 3) M with h0 | ⟨s, hs, h3, hn⟩
    · exact ⟨t, st, ht, id, hJ, fun _ => Iff.rfl, fun _ => h0, fun post hp => br_f (nI_ge (by omega) (by omega)) (et_xlow_n hM h0 (br_t rfl (nm_r (ej_3n N) hp)))⟩
    · obtain ⟨st1, t1, ht1, tt1, J1, f1, n1, hX⟩ := ej_xack (h := h) (tk := tk) (sn := sn) (wd := wd) hN hM ht hr hs h3 hJ.1
      obtain ⟨t', st', ht', tt', J', f', n', gX⟩ := ih (i + 1) t1 st1 (by omega) ht1 J1
      exact ⟨t', st', ht', fun z => tt' (tt1 z), J', fun j => (f' j).trans (f1 j), fun z => n' (by omega), fun post hp => br_f (nI_ge (by omega) (by omega)) (et_xlow_s hM hs h3 hn (br_f (et_m1 (by omega)) (hX _ (nm_r (nI_1 i) (gX post hp)))))⟩
theorem ej_msettle (hN0 : 2 ≤ N) (hN : N ≤ 8) (hM : M ≤ 32) (hh : h < N) (ht : et_b t) (hr : et_b r) (hJ : ej_J N M sd t r ac st se re nd ns) (hq : q → t ≠ 0 ∨ r ≠ 0) {post : Int32 → St2 → Prop} (hp : ∀ rr u', ej_G N M sd q u' → (¬ ej_q N M ac st → rr = 0) → (ej_q N M ac st → sd ≠ 0 → rr = 3) → post rr u') : wpX_settle post (nI N, nI M, sd, et_an t r, nI h, tk, ac, sn, wd, nd, ns, st, se, re) := by
  obtain ⟨t1, st1, ht1, tt1, J1, f1, n1, hX⟩ := ej_set1 (h := h) (tk := tk) (sn := sn) (wd := wd) hN hM hr M 0 t st (by omega) ht hJ
  obtain ⟨h', r', tk', sn', hh', hr', rt', J', q', gX⟩ := ej_set2 (wd := wd) hN0 hN hM ht1 (3 * N) 0 h r tk sn (by omega) hh hr J1
  have eq : ej_q N M ac st1 ↔ ej_q N M ac st := by
    constructor
    · exact fun z => ⟨z.1, fun j hj e => z.2 j hj ((f1 j).mpr e)⟩
    · exact fun z => ⟨z.1, fun j hj e => z.2 j hj ((f1 j).mp e)⟩
  unfold wpX_settle
  refine ⟨M + 1, hX _ ⟨3 * N + 1, gX _ (hp _ _ (ej_GI hh' ht1 hr' J' (fun z => (hq z).imp tt1 rt')) (fun z => ?_) (fun z y => ?_))⟩⟩
  · have hr0 : r' = 0 := Decidable.not_not.mp (fun w => z (eq.mp (J'.1.2.2.2.2.1 w)))
    have ht0 : t1 = 0 := by
      rcases ht1 with w | w
      · exact w
      · have g := J'.1.1.2.2.2.2 (Or.inr w)
        exact absurd (eq.mp ⟨g.2, fun j hj e => by rw [g.1 j hj] at e; exact absurd e (by decide)⟩) z
    rw [hr0, ht0]; decide
  · have hq1 := eq.mpr z
    have ht1' : t1 = 1 := ej_done hN ht1 J1 hq1 (n1 (ej_nf_le st M)) y
    have hr1' : r' = 1 := et_bn hr' (q' y hq1 (Or.inr (Or.inl (by omega))))
    rw [ht1', hr1']; decide
end EMD
