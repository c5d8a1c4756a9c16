section ETY
variable {N M h : Nat} {sd t r tk : Int32} {ac sn st se re T : Nat → Int32} {post : Int32 → Prop}
theorem et_ypar_nl {x : Int32} (hM : M ≤ 32) (hp : post (-1)) : ∀ d i, i + d = M → (∀ j, i ≤ j → j < M → ¬ (st j = 2 ∧ re j = x)) → wY_parent_2 post x (nI N) (nI M) sd t r (nI h) tk st se re ac sn T (d + 1) (nI i) := by
  intro d
  induction d with
  | zero => exact fun i hi _ => br_t (nI_le (by omega) (by omega)) hp
  | succ d ih =>
    intro i hi hn
    have hr := nm_r (P := fun y => wY_parent_2 post x (nI N) (nI M) sd t r (nI h) tk st se re ac sn T (d + 1) y) (nI_1 i) (ih (i + 1) (by omega) (fun j hj => hn j (by omega)))
    have hi' := hn i (Nat.le_refl i) (by omega)
    refine br_f (nI_ge (by omega) (by omega)) ⟨vp_in_nI (by omega) (by decide), br_c (fun z => ⟨vp_in_nI (by omega) (by decide), br_f ?_ hr⟩) (fun _ => hr)⟩
    rw [nI_clamp (by omega)] at z ⊢
    exact fun y => hi' ⟨z, y⟩
theorem et_ypar_n {x : Int32} (hM : M ≤ 32) (hn : ∀ j, j < M → ¬ (st j = 2 ∧ re j = x)) (hp : post (-1)) : wpY_parent post (nI N, nI M, sd, t, r, nI h, tk, st, se, re, ac, sn, T) x :=
  ⟨M + 1, et_ypar_nl hM hp M 0 (by omega) (fun j _ => hn j)⟩
theorem et_ypar_sl {x : Int32} {s : Nat} (hM : M ≤ 32) (hs : s < M) (h2 : st s = 2) (hx : re s = x) (hp : post (se s)) : ∀ d i, i + d = s → (∀ j, i ≤ j → j < s → ¬ (st j = 2 ∧ re j = x)) → wY_parent_2 post x (nI N) (nI M) sd t r (nI h) tk st se re ac sn T (d + 1) (nI i) := by
  intro d
  induction d with
  | zero =>
    intro i hi _
    have e : i = s := by omega
    subst e
    refine br_f (nI_ge (by omega) (by omega)) ⟨vp_in_nI (by omega) (by decide), br_t ?_ ⟨vp_in_nI (by omega) (by decide), br_t ?_ ⟨vp_in_nI (by omega) (by decide), ?_⟩⟩⟩
    · rw [nI_clamp (by omega)]; exact h2
    · rw [nI_clamp (by omega)]; exact hx
    · rw [nI_clamp (by omega)]; exact hp
  | succ d ih =>
    intro i hi hn
    have hr := nm_r (P := fun y => wY_parent_2 post x (nI N) (nI M) sd t r (nI h) tk st se re ac sn T (d + 1) y) (nI_1 i) (ih (i + 1) (by omega) (fun j hj => hn j (by omega)))
    have hi' := hn i (Nat.le_refl i) (by omega)
    refine br_f (nI_ge (by omega) (by omega)) ⟨vp_in_nI (by omega) (by decide), br_c (fun z => ⟨vp_in_nI (by omega) (by decide), br_f ?_ hr⟩) (fun _ => hr)⟩
    rw [nI_clamp (by omega)] at z ⊢
    exact fun y => hi' ⟨z, y⟩
theorem et_ypar_s {x : Int32} {s : Nat} (hM : M ≤ 32) (hs : s < M) (h2 : st s = 2) (hx : re s = x) (hn : ∀ j, j < s → ¬ (st j = 2 ∧ re j = x)) (hp : post (se s)) : wpY_parent post (nI N, nI M, sd, t, r, nI h, tk, st, se, re, ac, sn, T) x :=
  ⟨s + 1, et_ypar_sl hM hs h2 hx hp s 0 (by omega) (fun j _ => hn j)⟩
-- no process active
theorem et_yact_nl (hN : N ≤ 8) (hp : post 1) : ∀ d i, i + d = N → (∀ j, i ≤ j → j < N → ac j = 0) → wY_noneActive_2 post (nI N) (nI M) sd t r (nI h) tk st se re ac sn T (d + 1) (nI i) := by
  intro d
  induction d with
  | zero => exact fun i hi _ => br_t (nI_le (by omega) (by omega)) hp
  | succ d ih =>
    intro i hi hn
    refine br_f (nI_ge (by omega) (by omega)) ⟨vp_in_nI (by omega) (by decide), br_t ?_ (nm_r (nI_1 i) (ih (i + 1) (by omega) (fun j hj => hn j (by omega))))⟩
    rw [nI_clamp (by omega)]; exact hn i (Nat.le_refl i) (by omega)
theorem et_yact_n (hN : N ≤ 8) (hn : ∀ j, j < N → ac j = 0) (hp : post 1) : wpY_noneActive post (nI N, nI M, sd, t, r, nI h, tk, st, se, re, ac, sn, T) :=
  ⟨N + 1, et_yact_nl hN hp N 0 (by omega) (fun j _ => hn j)⟩
theorem et_yact_sl {s : Nat} (hN : N ≤ 8) (hs : s < N) (hc : ac s ≠ 0) (hp : post 0) : ∀ d i, i + d = s → wY_noneActive_2 post (nI N) (nI M) sd t r (nI h) tk st se re ac sn T (d + 1) (nI i) := by
  intro d
  induction d with
  | zero =>
    intro i hi
    have e : i = s := by omega
    subst e
    exact br_f (nI_ge (by omega) (by omega)) ⟨vp_in_nI (by omega) (by decide), br_f (by rw [nI_clamp (by omega)]; exact hc) hp⟩
  | succ d ih =>
    intro i hi
    exact br_f (nI_ge (by omega) (by omega)) ⟨vp_in_nI (by omega) (by decide), br_c (fun _ => nm_r (nI_1 i) (ih (i + 1) (by omega))) (fun _ => hp)⟩
theorem et_yact_s {s : Nat} (hN : N ≤ 8) (hs : s < N) (hc : ac s ≠ 0) (hp : post 0) : wpY_noneActive post (nI N, nI M, sd, t, r, nI h, tk, st, se, re, ac, sn, T) :=
  ⟨s + 1, et_yact_sl hN hs hc hp s 0 (by omega)⟩
-- the deficit
theorem et_yun_l {x : Int32} (hM : M ≤ 32) (hp : post (nI (et_cn st se x M))) : ∀ d i, i + d = M → wY_deficit_18 post x (nI N) (nI M) sd t r (nI h) tk st se re ac sn T (d + 1) (nI (et_cn st se x i)) (nI i) := by
  intro d
  induction d with
  | zero =>
    intro i hi
    have e : i = M := by omega
    subst e
    exact br_t (nI_le (by omega) (by omega)) hp
  | succ d ih =>
    intro i hi
    have hr := ih (i + 1) (by omega)
    have hc := nI_clamp (show i < 2 ^ 31 by omega)
    refine br_f (nI_ge (by omega) (by omega)) ⟨vp_in_nI (by omega) (by decide), br_c (fun z => ?_) (fun z => ⟨vp_in_nI (by omega) (by decide), br_c (fun y => ?_) (fun y => ?_)⟩)⟩
    · rw [hc] at z
      rw [et_cn_f (fun w => w.1 z)] at hr
      exact nm_r (nI_1 i) hr
    · rw [hc] at z y
      rw [et_cn_t z y] at hr
      exact nm_r (nI_1 _) (nm_r (nI_1 i) hr)
    · rw [hc] at z y
      rw [et_cn_f (fun w => y w.2)] at hr
      exact nm_r (nI_1 i) hr
theorem et_yun {p : Nat} (hN : N ≤ 8) (hM : M ≤ 32) (hj : p < N) (hp : post (nI (et_cn st se (nI p) M))) : wpY_deficit post (nI N, nI M, sd, t, r, nI h, tk, st, se, re, ac, sn, T) (nI p) :=
  br_f (nI_pos (by omega)) (br_t (nI_lt hj (by omega)) ⟨M + 1, et_yun_l hM hp M 0 (by omega)⟩)
theorem et_yun_f {x : Int32} (hx : x < 0 ∨ nI N ≤ x) (hp : post (-1)) : wpY_deficit post (nI N, nI M, sd, t, r, nI h, tk, st, se, re, ac, sn, T) x := by
  by_cases h0 : x < 0
  · exact br_t h0 hp
  · exact br_f h0 (br_f (Int32.not_lt.mpr (hx.resolve_left h0)) hp)
end ETY
section ETZ
variable {N M h : Nat} {sd t r tk : Int32} {ac sn st se re T : Nat → Int32} {post : SY → Prop}
-- the loop of homecoming
theorem et_yhl_n {x : Int32} (hM : M ≤ 32) (hp : post (nI N, nI M, sd, t, r, nI h, tk, st, se, re, ac, sn, T)) : ∀ d i, i + d = M → (∀ j, i ≤ j → j < M → ¬ (st j = 2 ∧ re j = x)) → wY_homecoming_24 post x (nI N) (nI M) sd t r (nI h) tk (d + 1) (nI i) st se re ac sn T := by
  intro d
  induction d with
  | zero => exact fun i hi _ => br_t (nI_le (by omega) (by omega)) hp
  | succ d ih =>
    intro i hi hn
    have hr := nm_r (P := fun y => wY_homecoming_24 post x (nI N) (nI M) sd t r (nI h) tk (d + 1) y st se re ac sn T) (nI_1 i) (ih (i + 1) (by omega) (fun j hj => hn j (by omega)))
    have hi' := hn i (Nat.le_refl i) (by omega)
    refine br_f (nI_ge (by omega) (by omega)) ⟨vp_in_nI (by omega) (by decide), br_c (fun z => ⟨vp_in_nI (by omega) (by decide), br_f ?_ hr⟩) (fun _ => hr)⟩
    rw [nI_clamp (by omega)] at z ⊢
    exact fun y => hi' ⟨z, y⟩
theorem et_yhl_s {x : Int32} {s : Nat} (hM : M ≤ 32) (hs : s < M) (h2 : st s = 2) (hx : re s = x) (hp : post (nI N, nI M, sd, t, r, nI h, tk, upd st s 3, se, re, ac, sn, T)) : ∀ d i, i + d = M → i ≤ s → (∀ j, i ≤ j → j < M → j ≠ s → ¬ (st j = 2 ∧ re j = x)) → wY_homecoming_24 post x (nI N) (nI M) sd t r (nI h) tk (d + 1) (nI i) st se re ac sn T := by
  intro d
  induction d with
  | zero => exact fun i hi h1 _ => absurd hi (by omega)
  | succ d ih =>
    intro i hi h1 hn
    by_cases e : i = s
    · subst e
      have hr := et_yhl_n (post := post) (x := x) (st := upd st i 3) hM hp d (i + 1) (by omega) (fun j hj hj' => by rw [pk_un (by omega)]; exact hn j (by omega) hj' (by omega))
      refine br_f (nI_ge (by omega) (by omega)) ⟨vp_in_nI (by omega) (by decide), br_t ?_ ⟨vp_in_nI (by omega) (by decide), br_t ?_ ⟨vp_in_nI (by omega) (by decide), nm_r (by rw [nI_clamp (by omega)]) (nm_r (nI_1 i) hr)⟩⟩⟩
      · rw [nI_clamp (by omega)]; exact h2
      · rw [nI_clamp (by omega)]; exact hx
    · have hr := nm_r (P := fun y => wY_homecoming_24 post x (nI N) (nI M) sd t r (nI h) tk (d + 1) y st se re ac sn T) (nI_1 i) (ih (i + 1) (by omega) (by omega) (fun j hj => hn j (by omega)))
      have hi' := hn i (Nat.le_refl i) (by omega) e
      refine br_f (nI_ge (by omega) (by omega)) ⟨vp_in_nI (by omega) (by decide), br_c (fun z => ⟨vp_in_nI (by omega) (by decide), br_f ?_ hr⟩) (fun _ => hr)⟩
      rw [nI_clamp (by omega)] at z ⊢
      exact fun y => hi' ⟨z, y⟩
-- the loop of the tree rule
theorem et_ytl_0 (hM : M ≤ 32) (hp : post (nI N, nI M, sd, t, r, nI h, tk, st, se, re, ac, sn, T)) : ∀ d i, i + d = M → wY_treeRule_22 post (nI N) (nI M) sd t r (nI h) tk st se re ac sn T (d + 1) 0 (nI i) := by
  intro d
  induction d with
  | zero => exact fun i hi => br_t (nI_le (by omega) (by omega)) (br_t rfl hp)
  | succ d ih =>
    intro i hi
    have hr := nm_r (P := fun y => wY_treeRule_22 post (nI N) (nI M) sd t r (nI h) tk st se re ac sn T (d + 1) 0 y) (nI_1 i) (ih (i + 1) (by omega))
    exact br_f (nI_ge (by omega) (by omega)) ⟨vp_in_nI (by omega) (by decide), br_c (fun _ => hr) (fun _ => hr)⟩
theorem et_ytl_1 (hM : M ≤ 32) (hp : post (nI N, nI M, sd, 1, r, nI h, tk, st, se, re, ac, sn, T)) : ∀ d i, i + d = M → (∀ j, i ≤ j → j < M → st j = 0) → wY_treeRule_22 post (nI N) (nI M) sd t r (nI h) tk st se re ac sn T (d + 1) 1 (nI i) := by
  intro d
  induction d with
  | zero => exact fun i hi _ => br_t (nI_le (by omega) (by omega)) (br_f et_n10 hp)
  | succ d ih =>
    intro i hi hn
    refine br_f (nI_ge (by omega) (by omega)) ⟨vp_in_nI (by omega) (by decide), br_t ?_ (nm_r (nI_1 i) (ih (i + 1) (by omega) (fun j hj => hn j (by omega))))⟩
    rw [nI_clamp (by omega)]; exact hn i (Nat.le_refl i) (by omega)
theorem et_ytl_n {s : Nat} (hM : M ≤ 32) (hs : s < M) (hc : st s ≠ 0) (hp : post (nI N, nI M, sd, t, r, nI h, tk, st, se, re, ac, sn, T)) : ∀ d i, i + d = M → i ≤ s → wY_treeRule_22 post (nI N) (nI M) sd t r (nI h) tk st se re ac sn T (d + 1) 1 (nI i) := by
  intro d
  induction d with
  | zero => exact fun i hi h1 => absurd hi (by omega)
  | succ d ih =>
    intro i hi h1
    by_cases e : i = s
    · subst e
      exact br_f (nI_ge (by omega) (by omega)) ⟨vp_in_nI (by omega) (by decide), br_f (by rw [nI_clamp (by omega)]; exact hc) (nm_r (nI_1 i) (et_ytl_0 hM hp d (i + 1) (by omega)))⟩
    · exact br_f (nI_ge (by omega) (by omega)) ⟨vp_in_nI (by omega) (by decide), br_c (fun _ => nm_r (nI_1 i) (ih (i + 1) (by omega) (by omega))) (fun _ => nm_r (nI_1 i) (et_ytl_0 hM hp d (i + 1) (by omega)))⟩
end ETZ
