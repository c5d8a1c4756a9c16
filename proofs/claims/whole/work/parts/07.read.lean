section ETR
/-- the bounds and the tallies -/
def et_Ok (N M h : Nat) (t r : Int32) (wd nd ns T : Nat → Int32) : Prop :=
  2 ≤ N ∧ N ≤ 8 ∧ 8 ≤ M ∧ M ≤ 32 ∧ h < N ∧ et_b t ∧ et_b r ∧ (∀ p, p < N → T p = wd p ∧ T (8 + p) = nd p ∧ T (16 + p) = ns p)
/-- the two states hold the same arrays, the same token, the same announced bits; the tallies alike -/
def i_Rel (k : Nat) (u : SX) (v : SY) : Prop :=
  ∃ (N M h : Nat) (sd t r tk : Int32) (ac sn wd nd ns st se re T : Nat → Int32),
    u = (nI N, nI M, sd, et_an t r, nI h, tk, ac, sn, wd, nd, ns, st, se, re) ∧ v = (nI N, nI M, sd, t, r, nI h, tk, st, se, re, ac, sn, T) ∧ et_Ok N M h t r wd nd ns T ∧ et_Inv N M sd t ac st se re
variable {N M h : Nat} {sd t r tk : Int32} {ac sn wd nd ns st se re T : Nat → Int32}
theorem et_R {k : Nat} (ok : et_Ok N M h t r wd nd ns T) (I : et_Inv N M sd t ac st se re) : i_Rel k (nI N, nI M, sd, et_an t r, nI h, tk, ac, sn, wd, nd, ns, st, se, re) (nI N, nI M, sd, t, r, nI h, tk, st, se, re, ac, sn, T) :=
  ⟨N, M, h, sd, t, r, tk, ac, sn, wd, nd, ns, st, se, re, T, rfl, rfl, ok, I⟩
theorem et_ix (x : Int32) {n : Nat} (hn : n < 2 ^ 31) : (x < 0 ∨ nI n ≤ x) ∨ ∃ j : Nat, j < n ∧ x = nI j := by
  rcases pk_ix x hn with a | a | a
  · exact Or.inl (Or.inl a)
  · exact Or.inl (Or.inr a)
  · exact Or.inr a
theorem et_o1 {x : Int32} {n : Nat} {A B : Prop} (hx : x < 0 ∨ nI n ≤ x) (a : A) : (x < 0 → A) ∧ (¬ x < 0 → ((x < nI n → B) ∧ (¬ x < nI n → A))) :=
  br_c (fun _ => a) (fun z => br_f (Int32.not_lt.mpr (hx.resolve_left z)) a)
theorem et_o2 {x : Int32} {n : Nat} {A B : Prop} (hx : x < 0 ∨ nI n ≤ x) (a : A) : (x < 0 → A) ∧ (¬ x < 0 → ((nI n ≤ x → A) ∧ (¬ nI n ≤ x → B))) :=
  br_c (fun _ => a) (fun z => br_t (hx.resolve_left z) a)
theorem et_i1 {j n : Nat} {A B : Prop} (hn : n < 2 ^ 31) (hj : j < n) (b : B) : (nI j < 0 → A) ∧ (¬ nI j < 0 → ((nI j < nI n → B) ∧ (¬ nI j < nI n → A))) :=
  br_f (nI_pos (by omega)) (br_t (nI_lt hj hn) b)
theorem et_i2 {j n : Nat} {A B : Prop} (hn : n < 2 ^ 31) (hj : j < n) (b : B) : (nI j < 0 → A) ∧ (¬ nI j < 0 → ((nI n ≤ nI j → A) ∧ (¬ nI n ≤ nI j → B))) :=
  br_f (nI_pos (by omega)) (br_f (nI_ge hj hn) b)
end ETR
section ETRR
variable {N M h : Nat} {sd t r tk : Int32} {ac sn st se re T : Nat → Int32} {post : Int32 → Prop}
-- the reference's result, a mode each
theorem et_yrA (hN : N ≤ 8) (ht : t ≠ 0) (hp : post (et_sm T N)) : ∀ d i, i + d = N → wY_result_4 post 0 (nI N) (nI M) sd t r (nI h) tk st se re ac sn T (d + 1) (et_sm T i) (nI i) := by
  intro d
  induction d with
  | zero =>
    intro i hi
    have e : i = N := by omega
    subst e
    exact br_t (nI_le (by omega) (by omega)) hp
  | succ d ih =>
    intro i hi
    exact br_f (nI_ge (by omega) (by omega)) (br_t rfl (br_f ht ⟨vp_in_nI (by omega) (by decide), nm_r (by rw [nI_clamp (by omega)]; rfl) (br_f (by decide) (br_f (by decide) (nm_r (nI_1 i) (ih (i + 1) (by omega)))))⟩))
theorem et_8n (p : Nat) : (8 : Int32) + nI p = nI (8 + p) := nI_add 8 p
theorem et_16n (p : Nat) : (16 : Int32) + nI p = nI (16 + p) := nI_add 16 p
theorem et_yrC (hN : N ≤ 8) (hr : r ≠ 0) (hp : post (et_sm (fun p => T (8 + p)) N)) : ∀ d i, i + d = N → wY_result_4 post 2 (nI N) (nI M) sd t r (nI h) tk st se re ac sn T (d + 1) (et_sm (fun p => T (8 + p)) i) (nI i) := by
  intro d
  induction d with
  | zero =>
    intro i hi
    have e : i = N := by omega
    subst e
    exact br_t (nI_le (by omega) (by omega)) hp
  | succ d ih =>
    intro i hi
    exact br_f (nI_ge (by omega) (by omega)) (br_f (by decide) (br_f (by decide) (br_t rfl (br_f hr ⟨by rw [et_8n]; exact vp_in_nI (by omega) (by decide), nm_r (by rw [et_8n, nI_clamp (by omega)]; rfl) (nm_r (nI_1 i) (ih (i + 1) (by omega)))⟩))))
theorem et_yrB (hN : N ≤ 8) (ht : t ≠ 0) (hp : post (nI (et_mk (fun p => T (8 + p)) N))) : ∀ d i, i + d = N → wY_result_4 post 1 (nI N) (nI M) sd t r (nI h) tk st se re ac sn T (d + 1) (nI (et_mk (fun p => T (8 + p)) i)) (nI i) := by
  intro d
  induction d with
  | zero =>
    intro i hi
    have e : i = N := by omega
    subst e
    exact br_t (nI_le (by omega) (by omega)) hp
  | succ d ih =>
    intro i hi
    have hr := ih (i + 1) (by omega)
    have hc : ((8 : Int32) + nI i).toNatClampNeg = 8 + i := by rw [et_8n]; exact nI_clamp (by omega)
    have hsum : (i = 0 ∨ 0 < T (8 + i)) → wY_result_60 post (wY_result_4 post 1 (nI N) (nI M) sd t r (nI h) tk st se re ac sn T (d + 1)) 1 (nI (et_mk (fun p => T (8 + p)) i)) (nI i) (nI N) (nI M) sd t r (nI h) tk st se re ac sn T := by
      intro w
      rw [et_mk_t (d := fun p => T (8 + p)) w] at hr
      exact nm_r (by rw [et_sh i (by omega), nI_add]) (br_f (by decide) (nm_r (nI_1 i) hr))
    have hno : ¬ (i = 0 ∨ 0 < T (8 + i)) → wY_result_66 post (wY_result_4 post 1 (nI N) (nI M) sd t r (nI h) tk st se re ac sn T (d + 1)) 1 (nI (et_mk (fun p => T (8 + p)) i)) (nI i) (nI N) (nI M) sd t r (nI h) tk st se re ac sn T := by
      intro w
      rw [et_mk_f (d := fun p => T (8 + p)) w] at hr
      exact br_f (by decide) (nm_r (nI_1 i) hr)
    refine br_f (nI_ge (by omega) (by omega)) (br_f (by decide) (br_t rfl (br_f ht (br_c (fun z => hsum (Or.inl ?_)) (fun z => ⟨by rw [et_8n]; exact vp_in_nI (by omega) (by decide), br_c (fun y => hno ?_) (fun y => hsum (Or.inr ?_))⟩)))))
    · exact (nI_eq (by omega) (by decide)).mp z
    · rw [hc] at y
      rintro (w | w)
      · exact z (by rw [w]; exact nI_0)
      · exact absurd y (Int32.not_le.mpr w)
    · rw [hc] at y; exact Int32.not_le.mp y
theorem et_yrD {x : Int32} (hN : N ≤ 8) (h0 : x = 0 → t = 0) (h1 : x = 1 → t = 0) (h2 : x = 2 → r = 0) (hp : post 0) : ∀ d i, i + d = N → wY_result_4 post x (nI N) (nI M) sd t r (nI h) tk st se re ac sn T (d + 1) 0 (nI i) := by
  intro d
  induction d with
  | zero => exact fun i hi => br_t (nI_le (by omega) (by omega)) hp
  | succ d ih =>
    intro i hi
    have h66 : wY_result_66 post (wY_result_4 post x (nI N) (nI M) sd t r (nI h) tk st se re ac sn T (d + 1)) x 0 (nI i) (nI N) (nI M) sd t r (nI h) tk st se re ac sn T :=
      br_c (fun z => br_t (h2 z) (nm_r (nI_1 i) (ih (i + 1) (by omega)))) (fun _ => nm_r (nI_1 i) (ih (i + 1) (by omega)))
    have h32 : wY_result_32 post (wY_result_4 post x (nI N) (nI M) sd t r (nI h) tk st se re ac sn T (d + 1)) x 0 (nI i) (nI N) (nI M) sd t r (nI h) tk st se re ac sn T :=
      br_c (fun z => br_t (h1 z) h66) (fun _ => h66)
    exact br_f (nI_ge (by omega) (by omega)) (br_c (fun z => br_t (h0 z) h32) (fun _ => h32))
end ETRR
section ETRX
variable {N M h : Nat} {sd t r tk : Int32} {ac sn wd nd ns st se re : Nat → Int32} {post : Int32 → Prop}
theorem et_xrA (hN : N ≤ 8) (ht : et_b t) (hr : et_b r) (h0 : t ≠ 0) (hp : post (et_sm wd N)) : wpX_result post (nI N, nI M, sd, et_an t r, nI h, tk, ac, sn, wd, nd, ns, st, se, re) 0 := by
  unfold wpX_result
  exact br_t rfl (et_xA_t (fun z => h0 ((et_an1 ht hr).mp z)) (br_f et_n10 (et_xsmW hN hp)))
theorem et_xrB (hN1 : 1 ≤ N) (hN : N ≤ 8) (ht : et_b t) (hr : et_b r) (h0 : t ≠ 0) (hp : post (nI (et_mk nd N))) : wpX_result post (nI N, nI M, sd, et_an t r, nI h, tk, ac, sn, wd, nd, ns, st, se, re) 1 := by
  unfold wpX_result
  refine br_f (by decide) ?_
  unfold wX_result_21
  exact br_t rfl (et_xA_t (fun z => h0 ((et_an1 ht hr).mp z)) (br_f et_n10 (et_xmk hN1 hN hp)))
theorem et_xrC (hN : N ≤ 8) (ht : et_b t) (hr : et_b r) (h0 : r ≠ 0) (hp : post (et_sm nd N)) : wpX_result post (nI N, nI M, sd, et_an t r, nI h, tk, ac, sn, wd, nd, ns, st, se, re) 2 := by
  unfold wpX_result
  refine br_f (by decide) ?_
  unfold wX_result_21
  refine br_f (by decide) ?_
  unfold wX_result_39
  exact br_t rfl (et_xA_t (fun z => h0 ((et_an2 ht hr).mp z)) (br_f et_n10 (et_xsmD hN hp)))
theorem et_xrD {x : Int32} (ht : et_b t) (hr : et_b r) (h0 : x = 0 → t = 0) (h1 : x = 1 → t = 0) (h2 : x = 2 → r = 0) (hp : post 0) : wpX_result post (nI N, nI M, sd, et_an t r, nI h, tk, ac, sn, wd, nd, ns, st, se, re) x := by
  have h39 : wX_result_39 post x (nI N) (nI M) sd (et_an t r) (nI h) tk ac sn wd nd ns st se re := by
    unfold wX_result_39
    exact br_c (fun z => et_xA_f ((et_an2 ht hr).mpr (h2 z)) (br_t rfl hp)) (fun _ => hp)
  have h21 : wX_result_21 post x (nI N) (nI M) sd (et_an t r) (nI h) tk ac sn wd nd ns st se re := by
    unfold wX_result_21
    exact br_c (fun z => et_xA_f ((et_an1 ht hr).mpr (h1 z)) (br_t rfl h39)) (fun _ => h39)
  unfold wpX_result
  exact br_c (fun z => et_xA_f ((et_an1 ht hr).mpr (h0 z)) (br_t rfl h21)) (fun _ => h21)
end ETRX
