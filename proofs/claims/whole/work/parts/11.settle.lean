section ETT
variable {N M h : Nat} {sd t r tk : Int32} {ac sn wd nd ns st se re T : Nat → Int32}
theorem et_yver {post : Int32 → Prop} (ht : et_b t) (hr : et_b r) (hp : post (et_an t r)) : wpY_verdict post (nI N, nI M, sd, t, r, nI h, tk, st, se, re, ac, sn, T) := by
  unfold wpY_verdict
  rcases ht with rfl | rfl
  · rcases hr with rfl | rfl
    · exact br_t rfl (br_t rfl hp)
    · exact br_t rfl (br_f et_n10 hp)
  · rcases hr with rfl | rfl
    · exact br_f et_n10 (br_t rfl hp)
    · exact br_f et_n10 (br_f et_n10 hp)
theorem et_3n (N : Nat) : (3 : Int32) * nI N = nI (3 * N) := pk_mul 3 N
/-- the second part of settle, on both sides -/
theorem et_set2 (hN0 : 2 ≤ N) (hN : N ≤ 8) (hM : M ≤ 32) (ht : et_b t) : ∀ (d i h : Nat) (r tk : Int32) (sn : Nat → Int32), i + d = 3 * N → h < N → et_b r → ∃ (h' : Nat) (r' tk' : Int32) (sn' : Nat → Int32), h' < N ∧ et_b r' ∧ (∀ post : Int32 → SX → Prop, post (et_an t r') (nI N, nI M, sd, et_an t r', nI h', tk', ac, sn', wd, nd, ns, st, se, re) → wX_settle_45 post (nI (3 * N)) (d + 1) (nI i) (nI N) (nI M) sd (et_an t r) (nI h) tk ac sn wd nd ns st se re) ∧ (∀ post : Int32 → SY → Prop, post (et_an t r') (nI N, nI M, sd, t, r', nI h', tk', st, se, re, ac, sn', T) → wY_settle_62 post (d + 1) 0 (nI i) (nI N) (nI M) sd t r (nI h) tk st se re ac sn T) := by
  intro d
  induction d with
  | zero =>
    intro i h r tk sn hi hh hr
    refine ⟨h, r, tk, sn, hh, hr, fun post hp => br_t (nI_le (by omega) (by omega)) hp, fun post hp => br_t ?_ (et_yver ht hr hp)⟩
    rw [et_3n]; exact nI_le (by omega) (by omega)
  | succ d ih =>
    intro i h r tk sn hi hh hr
    have hle : ¬ (3 : Int32) * nI N ≤ nI i := by rw [et_3n]; exact nI_ge (by omega) (by omega)
    obtain ⟨rr, h1, r1, tk1, sn1, hh1, hr1, hX, hY⟩ := et_pass (sd := sd) (tk := tk) (ac := ac) (sn := sn) (wd := wd) (nd := nd) (ns := ns) (st := st) (se := se) (re := re) (T := T) hN0 hN hM hh ht hr
    by_cases h0 : rr = 0
    · subst h0
      obtain ⟨h', r', tk', sn', hh', hr', gX, gY⟩ := ih (i + 1) h1 r1 tk1 sn1 (by omega) hh1 hr1
      exact ⟨h', r', tk', sn', hh', hr', fun post hp => br_f (nI_ge (by omega) (by omega)) (hX _ (br_t rfl (nm_r (nI_1 i) (gX post hp)))), fun post hp => br_f hle (br_t rfl (hY _ (nm_r (nI_1 i) (gY post hp))))⟩
    · refine ⟨h1, r1, tk1, sn1, hh1, hr1, fun post hp => br_f (nI_ge (by omega) (by omega)) (hX _ (br_f h0 hp)), fun post hp => br_f hle (br_t rfl (hY _ (nm_r (nI_1 i) ?_)))⟩
      exact br_c (fun _ => et_yver ht hr1 hp) (fun _ => br_f h0 (et_yver ht hr1 hp))
-- the reference's search for the lowest REPLYING slot
theorem et_pm (e : Nat) : nI e + (-1) = nI e - 1 := (Int32.sub_eq_add_neg (nI e) 1).symm
theorem et_y19_n {post : Int32 → SY → Prop} {J2 : Int32 → Int32 → Int32 → Int32 → Int32 → Int32 → Int32 → Int32 → (Nat → Int32) → (Nat → Int32) → (Nat → Int32) → (Nat → Int32) → (Nat → Int32) → (Nat → Int32) → Prop} {x1 x2 : Int32} (hx : wY_settle_19 post J2 x1 (nI N) (nI M) sd t r (nI h) tk st se re ac sn T 1 x2 (-1)) : ∀ e, e ≤ 32 → (∀ j, j < e → st j ≠ 3) → wY_settle_19 post J2 x1 (nI N) (nI M) sd t r (nI h) tk st se re ac sn T (e + 1) x2 (nI e - 1) := by
  intro e
  induction e with
  | zero => exact fun _ _ => hx
  | succ e ih =>
    intro he hn
    rw [nI_pred]
    refine br_f (nI_pos (by omega)) ⟨vp_in_nI (by omega) (by decide), br_f ?_ (nm_r (et_pm e) (ih (by omega) (fun j hj => hn j (by omega))))⟩
    rw [nI_clamp (by omega)]; exact hn e (by omega)
theorem et_y19_s {post : Int32 → SY → Prop} {J2 : Int32 → Int32 → Int32 → Int32 → Int32 → Int32 → Int32 → Int32 → (Nat → Int32) → (Nat → Int32) → (Nat → Int32) → (Nat → Int32) → (Nat → Int32) → (Nat → Int32) → Prop} {x1 : Int32} {s : Nat} (h3 : st s = 3) (hn : ∀ j, j < s → st j ≠ 3) (hx : wY_settle_19 post J2 x1 (nI N) (nI M) sd t r (nI h) tk st se re ac sn T 1 (nI s) (-1)) : ∀ e, e ≤ 32 → s < e → ∀ x2 : Int32, wY_settle_19 post J2 x1 (nI N) (nI M) sd t r (nI h) tk st se re ac sn T (e + 1) x2 (nI e - 1) := by
  intro e
  induction e with
  | zero => exact fun _ h => absurd h (Nat.not_lt_zero s)
  | succ e ih =>
    intro he hs x2
    rw [nI_pred]
    by_cases es : e = s
    · subst es
      exact br_f (nI_pos (by omega)) ⟨vp_in_nI (by omega) (by decide), br_t (by rw [nI_clamp (by omega)]; exact h3) (nm_r (et_pm e) (et_y19_n hx e (by omega) hn))⟩
    · exact br_f (nI_pos (by omega)) ⟨vp_in_nI (by omega) (by decide), br_c (fun _ => nm_r (et_pm e) (ih (by omega) (by omega) _)) (fun _ => nm_r (et_pm e) (ih (by omega) (by omega) _))⟩
theorem et_yidle {post : Int32 → SY → Prop} (hM : M ≤ 32) (hn : ∀ j, j < M → st j ≠ 3) (hp : ∃ n, wY_settle_62 post n 0 0 (nI N) (nI M) sd t r (nI h) tk st se re ac sn T) : ∀ d i, i + d = M → wY_settle_2 post (d + 1) (nI i) (nI N) (nI M) sd t r (nI h) tk st se re ac sn T := by
  intro d
  induction d with
  | zero => exact fun i hi => br_t (nI_le (by omega) (by omega)) hp
  | succ d ih =>
    intro i hi
    refine br_f (nI_ge (by omega) (by omega)) (nm_e ⟨M + 1, et_y19_n ?_ M hM hn⟩)
    exact br_t (by decide) (br_t rfl (nm_r (nI_1 i) (ih (i + 1) (by omega))))
/-- the first part of settle, on both sides -/
theorem et_set1 (hN : N ≤ 8) (hM : M ≤ 32) (hr : et_b r) : ∀ (d i : Nat) (t : Int32) (st : Nat → Int32), i + d = M → et_b t → et_Inv N M sd t ac st se re → ∃ (t' : Int32) (st' : Nat → Int32), et_b t' ∧ et_Inv N M sd t' ac st' se re ∧ (∀ post : Int32 → SX → Prop, (∃ n, wX_settle_45 post (nI (3 * N)) n 0 (nI N) (nI M) sd (et_an t' r) (nI h) tk ac sn wd nd ns st' se re) → wX_settle_2 post (d + 1) (nI i) (nI N) (nI M) sd (et_an t r) (nI h) tk ac sn wd nd ns st se re) ∧ (∀ post : Int32 → SY → Prop, (∃ n, wY_settle_62 post n 0 0 (nI N) (nI M) sd t' r (nI h) tk st' se re ac sn T) → wY_settle_2 post (d + 1) (nI i) (nI N) (nI M) sd t r (nI h) tk st se re ac sn T) := by
  intro d
  induction d with
  | zero =>
    intro i t st hi ht I
    exact ⟨t, st, ht, I, fun post hp => br_t (nI_le (by omega) (by omega)) (nm_r (et_3n N) hp), fun post hp => br_t (nI_le (by omega) (by omega)) hp⟩
  | succ d ih =>
    intro i t st hi ht I
    rcases et_first (fun j => st j = 3) M with h0 | ⟨s, hs, h3, hn⟩
    · exact ⟨t, st, ht, I, fun post hp => br_f (nI_ge (by omega) (by omega)) (et_xlow_n hM h0 (br_t rfl (nm_r (et_3n N) hp))), fun post hp => et_yidle hM h0 hp (d + 1) i hi⟩
    · obtain ⟨st1, t1, ht1, I1, hX, hY⟩ := et_ack (h := h) (tk := tk) (sn := sn) (wd := wd) (nd := nd) (ns := ns) (T := T) hN hM ht hr hs h3 I
      obtain ⟨t', st', ht', I', gX, gY⟩ := ih (i + 1) t1 st1 (by omega) ht1 I1
      refine ⟨t', st', ht', I', fun post hp => br_f (nI_ge (by omega) (by omega)) (et_xlow_s hM hs h3 hn (br_f (et_m1 (by omega)) (hX _ (nm_r (nI_1 i) (gX post hp))))), fun post hp => br_f (nI_ge (by omega) (by omega)) (nm_e ⟨M + 1, et_y19_s h3 hn ?_ M hM hs _⟩)⟩
      exact br_t (by decide) (br_f (et_m1 (by omega)) (hY _ (nm_r (nI_1 i) (gY post hp))))
end ETT
theorem i_vc_settle {k : Nat} {u : SX} {v : SY} (I : i_Rel k u v) (hk : k + 3 ≤ 1538) : wpX_settle (fun r u' => wpY_settle (fun r' v' => r' = r ∧ i_Rel (k + 3) u' v') v) u := by
  obtain ⟨N, M, h, sd, t, r, tk, ac, sn, wd, nd, ns, st, se, re, T, rfl, rfl, ok, inv⟩ := I
  obtain ⟨n1, n2, m1, m2, hh, ht, hr, hT⟩ := ok
  obtain ⟨t1, st1, ht1, I1, hX, hY⟩ := et_set1 (h := h) (tk := tk) (sn := sn) (wd := wd) (nd := nd) (ns := ns) (T := T) n2 m2 hr M 0 t st (by omega) ht inv
  obtain ⟨h', r', tk', sn', hh', hr', gX, gY⟩ := et_set2 (sd := sd) (ac := ac) (wd := wd) (nd := nd) (ns := ns) (st := st1) (se := se) (re := re) (T := T) n1 n2 m2 ht1 (3 * N) 0 h r tk sn (by omega) hh hr
  unfold wpX_settle wpY_settle
  exact ⟨M + 1, hX _ ⟨3 * N + 1, gX _ ⟨M + 1, hY _ ⟨3 * N + 1, gY _ ⟨rfl, et_R ⟨n1, n2, m1, m2, hh', ht1, hr', hT⟩ I1⟩⟩⟩⟩⟩
