section ETX
variable {N M h : Nat} {sd an tk : Int32} {ac sn wd nd ns st se re : Nat → Int32} {post : Int32 → Prop}
theorem et_xP_t {j : Nat} (hN : N ≤ 8) (hj : j < N) (hp : post 1) : wpX_isProcess post (nI N, nI M, sd, an, nI h, tk, ac, sn, wd, nd, ns, st, se, re) (nI j) :=
  br_f (nI_pos (by omega)) (br_f (nI_ge hj (by omega)) hp)
theorem et_xP_f {x : Int32} (hx : x < 0 ∨ nI N ≤ x) (hp : post 0) : wpX_isProcess post (nI N, nI M, sd, an, nI h, tk, ac, sn, wd, nd, ns, st, se, re) x := by
  by_cases h0 : x < 0
  · exact br_t h0 hp
  · exact br_f h0 (br_t (hx.resolve_left h0) hp)
theorem et_xS_t {j : Nat} (hM : M ≤ 32) (hj : j < M) (hp : post 1) : wpX_isSlot post (nI N, nI M, sd, an, nI h, tk, ac, sn, wd, nd, ns, st, se, re) (nI j) :=
  br_f (nI_pos (by omega)) (br_f (nI_ge hj (by omega)) hp)
theorem et_xS_f {x : Int32} (hx : x < 0 ∨ nI M ≤ x) (hp : post 0) : wpX_isSlot post (nI N, nI M, sd, an, nI h, tk, ac, sn, wd, nd, ns, st, se, re) x := by
  by_cases h0 : x < 0
  · exact br_t h0 hp
  · exact br_f h0 (br_t (hx.resolve_left h0) hp)
theorem et_xA_t {b : Int32} (hb : (an &&& b) ≠ 0) (hp : post 1) : wpX_isAnnounced post (nI N, nI M, sd, an, nI h, tk, ac, sn, wd, nd, ns, st, se, re) b := br_f hb hp
theorem et_xA_f {b : Int32} (hb : (an &&& b) = 0) (hp : post 0) : wpX_isAnnounced post (nI N, nI M, sd, an, nI h, tk, ac, sn, wd, nd, ns, st, se, re) b := br_t hb hp
-- the lowest slot at a stage
theorem et_xlow_nl {c : Int32} (hM : M ≤ 32) (hp : post (-1)) : ∀ d i, i + d = M → (∀ j, i ≤ j → j < M → st j ≠ c) → wX_lowestSlotAt_2 post c (nI N) (nI M) sd an (nI h) tk ac sn wd nd ns st se re (d + 1) (nI i) := by
  intro d
  induction d with
  | zero => exact fun i hi _ => br_t (nI_le (by omega) (by omega)) hp
  | succ d ih =>
    intro i hi hn
    refine br_f (nI_ge (by omega) (by omega)) ⟨vp_in_nI (by omega) (by decide), br_f ?_ (nm_r (nI_1 i) (ih (i + 1) (by omega) (fun j hj => hn j (by omega))))⟩
    rw [nI_clamp (by omega)]; exact hn i (Nat.le_refl i) (by omega)
theorem et_xlow_n {c : Int32} (hM : M ≤ 32) (hn : ∀ j, j < M → st j ≠ c) (hp : post (-1)) : wpX_lowestSlotAt post (nI N, nI M, sd, an, nI h, tk, ac, sn, wd, nd, ns, st, se, re) c :=
  ⟨M + 1, et_xlow_nl hM hp M 0 (by omega) (fun j _ => hn j)⟩
theorem et_xlow_sl {c : Int32} {s : Nat} (hM : M ≤ 32) (hs : s < M) (hc : st s = c) (hp : post (nI s)) : ∀ d i, i + d = s → (∀ j, i ≤ j → j < s → st j ≠ c) → wX_lowestSlotAt_2 post c (nI N) (nI M) sd an (nI h) tk ac sn wd nd ns st se re (d + 1) (nI i) := by
  intro d
  induction d with
  | zero =>
    intro i hi _
    have e : i = s := by omega
    subst e
    exact br_f (nI_ge (by omega) (by omega)) ⟨vp_in_nI (by omega) (by decide), br_t (by rw [nI_clamp (by omega)]; exact hc) hp⟩
  | succ d ih =>
    intro i hi hn
    refine br_f (nI_ge (by omega) (by omega)) ⟨vp_in_nI (by omega) (by decide), br_f ?_ (nm_r (nI_1 i) (ih (i + 1) (by omega) (fun j hj => hn j (by omega))))⟩
    rw [nI_clamp (by omega)]; exact hn i (Nat.le_refl i) (by omega)
theorem et_xlow_s {c : Int32} {s : Nat} (hM : M ≤ 32) (hs : s < M) (hc : st s = c) (hn : ∀ j, j < s → st j ≠ c) (hp : post (nI s)) : wpX_lowestSlotAt post (nI N, nI M, sd, an, nI h, tk, ac, sn, wd, nd, ns, st, se, re) c :=
  ⟨s + 1, et_xlow_sl hM hs hc hp s 0 (by omega) (fun j _ => hn j)⟩
-- the HELD slot of a receiver
theorem et_xheld_nl {x : Int32} (hM : M ≤ 32) (hp : post (-1)) : ∀ d i, i + d = M → (∀ j, i ≤ j → j < M → ¬ (st j = 2 ∧ re j = x)) → wX_heldSlot_2 post x (nI N) (nI M) sd an (nI h) tk ac sn wd nd ns st se re (d + 1) (nI i) := by
  intro d
  induction d with
  | zero => exact fun i hi _ => br_t (nI_le (by omega) (by omega)) hp
  | succ d ih =>
    intro i hi hn
    have hr := nm_r (P := fun y => wX_heldSlot_2 post x (nI N) (nI M) sd an (nI h) tk ac sn wd nd ns st se re (d + 1) y) (nI_1 i) (ih (i + 1) (by omega) (fun j hj => hn j (by omega)))
    have hi' := hn i (Nat.le_refl i) (by omega)
    refine br_f (nI_ge (by omega) (by omega)) ⟨vp_in_nI (by omega) (by decide), br_c (fun z => ⟨vp_in_nI (by omega) (by decide), br_f ?_ hr⟩) (fun _ => hr)⟩
    rw [nI_clamp (by omega)] at z ⊢
    exact fun y => hi' ⟨z, y⟩
theorem et_xheld_n {x : Int32} (hM : M ≤ 32) (hn : ∀ j, j < M → ¬ (st j = 2 ∧ re j = x)) (hp : post (-1)) : wpX_heldSlot post (nI N, nI M, sd, an, nI h, tk, ac, sn, wd, nd, ns, st, se, re) x :=
  ⟨M + 1, et_xheld_nl hM hp M 0 (by omega) (fun j _ => hn j)⟩
theorem et_xheld_sl {x : Int32} {s : Nat} (hM : M ≤ 32) (hs : s < M) (h2 : st s = 2) (hx : re s = x) (hp : post (nI s)) : ∀ d i, i + d = s → (∀ j, i ≤ j → j < s → ¬ (st j = 2 ∧ re j = x)) → wX_heldSlot_2 post x (nI N) (nI M) sd an (nI h) tk ac sn wd nd ns st se re (d + 1) (nI i) := by
  intro d
  induction d with
  | zero =>
    intro i hi _
    have e : i = s := by omega
    subst e
    refine br_f (nI_ge (by omega) (by omega)) ⟨vp_in_nI (by omega) (by decide), br_t ?_ ⟨vp_in_nI (by omega) (by decide), br_t ?_ hp⟩⟩
    · rw [nI_clamp (by omega)]; exact h2
    · rw [nI_clamp (by omega)]; exact hx
  | succ d ih =>
    intro i hi hn
    have hr := nm_r (P := fun y => wX_heldSlot_2 post x (nI N) (nI M) sd an (nI h) tk ac sn wd nd ns st se re (d + 1) y) (nI_1 i) (ih (i + 1) (by omega) (fun j hj => hn j (by omega)))
    have hi' := hn i (Nat.le_refl i) (by omega)
    refine br_f (nI_ge (by omega) (by omega)) ⟨vp_in_nI (by omega) (by decide), br_c (fun z => ⟨vp_in_nI (by omega) (by decide), br_f ?_ hr⟩) (fun _ => hr)⟩
    rw [nI_clamp (by omega)] at z ⊢
    exact fun y => hi' ⟨z, y⟩
theorem et_xheld_s {x : Int32} {s : Nat} (hM : M ≤ 32) (hs : s < M) (h2 : st s = 2) (hx : re s = x) (hn : ∀ j, j < s → ¬ (st j = 2 ∧ re j = x)) (hp : post (nI s)) : wpX_heldSlot post (nI N, nI M, sd, an, nI h, tk, ac, sn, wd, nd, ns, st, se, re) x :=
  ⟨s + 1, et_xheld_sl hM hs h2 hx hp s 0 (by omega) (fun j _ => hn j)⟩
-- the deficit
theorem et_xun_l {x : Int32} (hM : M ≤ 32) (hp : post (nI (et_cn st se x M))) : ∀ d i, i + d = M → wX_unacknowledged_4 post x (nI N) (nI M) sd an (nI h) tk ac sn wd nd ns st se re (d + 1) (nI (et_cn st se x i)) (nI i) := by
  intro d
  induction d with
  | zero =>
    intro i hi
    have e : i = M := by omega
    subst e
    exact br_t (nI_le (by omega) (by omega)) hp
  | succ d ih =>
    intro i hi
    have hr := ih (i + 1) (by omega)
    have hc := nI_clamp (show i < 2 ^ 31 by omega)
    refine br_f (nI_ge (by omega) (by omega)) ⟨vp_in_nI (by omega) (by decide), br_c (fun z => ?_) (fun z => ⟨vp_in_nI (by omega) (by decide), br_c (fun y => ?_) (fun y => ?_)⟩)⟩
    · rw [hc] at z
      rw [et_cn_f (fun w => w.1 z)] at hr
      exact nm_r (nI_1 i) hr
    · rw [hc] at z y
      rw [et_cn_t z y] at hr
      exact nm_r (nI_1 _) (nm_r (nI_1 i) hr)
    · rw [hc] at z y
      rw [et_cn_f (fun w => y w.2)] at hr
      exact nm_r (nI_1 i) hr
theorem et_xun {x : Int32} (hM : M ≤ 32) (hp : post (nI (et_cn st se x M))) : wpX_unacknowledged post (nI N, nI M, sd, an, nI h, tk, ac, sn, wd, nd, ns, st, se, re) x :=
  ⟨M + 1, et_xun_l hM hp M 0 (by omega)⟩
-- is some process active, stained; is every slot FREE
theorem et_xact_nl (hN : N ≤ 8) (hp : post 0) : ∀ d i, i + d = N → (∀ j, i ≤ j → j < N → ac j = 0) → wX_anyActive_2 post (nI N) (nI M) sd an (nI h) tk ac sn wd nd ns st se re (d + 1) (nI i) := by
  intro d
  induction d with
  | zero => exact fun i hi _ => br_t (nI_le (by omega) (by omega)) hp
  | succ d ih =>
    intro i hi hn
    refine br_f (nI_ge (by omega) (by omega)) ⟨vp_in_nI (by omega) (by decide), br_t ?_ (nm_r (nI_1 i) (ih (i + 1) (by omega) (fun j hj => hn j (by omega))))⟩
    rw [nI_clamp (by omega)]; exact hn i (Nat.le_refl i) (by omega)
theorem et_xact_n (hN : N ≤ 8) (hn : ∀ j, j < N → ac j = 0) (hp : post 0) : wpX_anyActive post (nI N, nI M, sd, an, nI h, tk, ac, sn, wd, nd, ns, st, se, re) :=
  ⟨N + 1, et_xact_nl hN hp N 0 (by omega) (fun j _ => hn j)⟩
theorem et_xact_sl {s : Nat} (hN : N ≤ 8) (hs : s < N) (hc : ac s ≠ 0) (hp : post 1) : ∀ d i, i + d = s → wX_anyActive_2 post (nI N) (nI M) sd an (nI h) tk ac sn wd nd ns st se re (d + 1) (nI i) := by
  intro d
  induction d with
  | zero =>
    intro i hi
    have e : i = s := by omega
    subst e
    exact br_f (nI_ge (by omega) (by omega)) ⟨vp_in_nI (by omega) (by decide), br_f (by rw [nI_clamp (by omega)]; exact hc) hp⟩
  | succ d ih =>
    intro i hi
    exact br_f (nI_ge (by omega) (by omega)) ⟨vp_in_nI (by omega) (by decide), br_c (fun _ => nm_r (nI_1 i) (ih (i + 1) (by omega))) (fun _ => hp)⟩
theorem et_xact_s {s : Nat} (hN : N ≤ 8) (hs : s < N) (hc : ac s ≠ 0) (hp : post 1) : wpX_anyActive post (nI N, nI M, sd, an, nI h, tk, ac, sn, wd, nd, ns, st, se, re) :=
  ⟨s + 1, et_xact_sl hN hs hc hp s 0 (by omega)⟩
theorem et_xstn_nl (hN : N ≤ 8) (hp : post 0) : ∀ d i, i + d = N → (∀ j, i ≤ j → j < N → sn j = 0) → wX_anyStained_2 post (nI N) (nI M) sd an (nI h) tk ac sn wd nd ns st se re (d + 1) (nI i) := by
  intro d
  induction d with
  | zero => exact fun i hi _ => br_t (nI_le (by omega) (by omega)) hp
  | succ d ih =>
    intro i hi hn
    refine br_f (nI_ge (by omega) (by omega)) ⟨vp_in_nI (by omega) (by decide), br_t ?_ (nm_r (nI_1 i) (ih (i + 1) (by omega) (fun j hj => hn j (by omega))))⟩
    rw [nI_clamp (by omega)]; exact hn i (Nat.le_refl i) (by omega)
theorem et_xstn_n (hN : N ≤ 8) (hn : ∀ j, j < N → sn j = 0) (hp : post 0) : wpX_anyStained post (nI N, nI M, sd, an, nI h, tk, ac, sn, wd, nd, ns, st, se, re) :=
  ⟨N + 1, et_xstn_nl hN hp N 0 (by omega) (fun j _ => hn j)⟩
theorem et_xstn_sl {s : Nat} (hN : N ≤ 8) (hs : s < N) (hc : sn s ≠ 0) (hp : post 1) : ∀ d i, i + d = s → wX_anyStained_2 post (nI N) (nI M) sd an (nI h) tk ac sn wd nd ns st se re (d + 1) (nI i) := by
  intro d
  induction d with
  | zero =>
    intro i hi
    have e : i = s := by omega
    subst e
    exact br_f (nI_ge (by omega) (by omega)) ⟨vp_in_nI (by omega) (by decide), br_f (by rw [nI_clamp (by omega)]; exact hc) hp⟩
  | succ d ih =>
    intro i hi
    exact br_f (nI_ge (by omega) (by omega)) ⟨vp_in_nI (by omega) (by decide), br_c (fun _ => nm_r (nI_1 i) (ih (i + 1) (by omega))) (fun _ => hp)⟩
theorem et_xstn_s {s : Nat} (hN : N ≤ 8) (hs : s < N) (hc : sn s ≠ 0) (hp : post 1) : wpX_anyStained post (nI N, nI M, sd, an, nI h, tk, ac, sn, wd, nd, ns, st, se, re) :=
  ⟨s + 1, et_xstn_sl hN hs hc hp s 0 (by omega)⟩
theorem et_xfree_yl (hM : M ≤ 32) (hp : post 1) : ∀ d i, i + d = M → (∀ j, i ≤ j → j < M → st j = 0) → wX_everySlotFree_2 post (nI N) (nI M) sd an (nI h) tk ac sn wd nd ns st se re (d + 1) (nI i) := by
  intro d
  induction d with
  | zero => exact fun i hi _ => br_t (nI_le (by omega) (by omega)) hp
  | succ d ih =>
    intro i hi hn
    refine br_f (nI_ge (by omega) (by omega)) ⟨vp_in_nI (by omega) (by decide), br_t ?_ (nm_r (nI_1 i) (ih (i + 1) (by omega) (fun j hj => hn j (by omega))))⟩
    rw [nI_clamp (by omega)]; exact hn i (Nat.le_refl i) (by omega)
theorem et_xfree_y (hM : M ≤ 32) (hn : ∀ j, j < M → st j = 0) (hp : post 1) : wpX_everySlotFree post (nI N, nI M, sd, an, nI h, tk, ac, sn, wd, nd, ns, st, se, re) :=
  ⟨M + 1, et_xfree_yl hM hp M 0 (by omega) (fun j _ => hn j)⟩
theorem et_xfree_nl {s : Nat} (hM : M ≤ 32) (hs : s < M) (hc : st s ≠ 0) (hp : post 0) : ∀ d i, i + d = s → wX_everySlotFree_2 post (nI N) (nI M) sd an (nI h) tk ac sn wd nd ns st se re (d + 1) (nI i) := by
  intro d
  induction d with
  | zero =>
    intro i hi
    have e : i = s := by omega
    subst e
    exact br_f (nI_ge (by omega) (by omega)) ⟨vp_in_nI (by omega) (by decide), br_f (by rw [nI_clamp (by omega)]; exact hc) hp⟩
  | succ d ih =>
    intro i hi
    exact br_f (nI_ge (by omega) (by omega)) ⟨vp_in_nI (by omega) (by decide), br_c (fun _ => nm_r (nI_1 i) (ih (i + 1) (by omega))) (fun _ => hp)⟩
theorem et_xfree_n {s : Nat} (hM : M ≤ 32) (hs : s < M) (hc : st s ≠ 0) (hp : post 0) : wpX_everySlotFree post (nI N, nI M, sd, an, nI h, tk, ac, sn, wd, nd, ns, st, se, re) :=
  ⟨s + 1, et_xfree_nl hM hs hc hp s 0 (by omega)⟩
-- sums and the mask
theorem et_xsmW_l (hN : N ≤ 8) (hp : post (et_sm wd N)) : ∀ d i, i + d = N → wX_sumOverProcesses_2_4 post (nI N) (nI M) sd an (nI h) tk ac sn wd nd ns st se re (d + 1) (et_sm wd i) (nI i) := by
  intro d
  induction d with
  | zero =>
    intro i hi
    have e : i = N := by omega
    subst e
    exact br_t (nI_le (by omega) (by omega)) hp
  | succ d ih =>
    intro i hi
    exact br_f (nI_ge (by omega) (by omega)) ⟨vp_in_nI (by omega) (by decide), nm_r (by rw [nI_clamp (by omega)]; rfl) (nm_r (nI_1 i) (ih (i + 1) (by omega)))⟩
theorem et_xsmW (hN : N ≤ 8) (hp : post (et_sm wd N)) : wpX_sumOverProcesses_2 post (nI N, nI M, sd, an, nI h, tk, ac, sn, wd, nd, ns, st, se, re) :=
  ⟨N + 1, et_xsmW_l hN hp N 0 (by omega)⟩
theorem et_xsmD_l (hN : N ≤ 8) (hp : post (et_sm nd N)) : ∀ d i, i + d = N → wX_sumOverProcesses_4 post (nI N) (nI M) sd an (nI h) tk ac sn wd nd ns st se re (d + 1) (et_sm nd i) (nI i) := by
  intro d
  induction d with
  | zero =>
    intro i hi
    have e : i = N := by omega
    subst e
    exact br_t (nI_le (by omega) (by omega)) hp
  | succ d ih =>
    intro i hi
    exact br_f (nI_ge (by omega) (by omega)) ⟨vp_in_nI (by omega) (by decide), nm_r (by rw [nI_clamp (by omega)]; rfl) (nm_r (nI_1 i) (ih (i + 1) (by omega)))⟩
theorem et_xsmD (hN : N ≤ 8) (hp : post (et_sm nd N)) : wpX_sumOverProcesses post (nI N, nI M, sd, an, nI h, tk, ac, sn, wd, nd, ns, st, se, re) :=
  ⟨N + 1, et_xsmD_l hN hp N 0 (by omega)⟩
theorem et_xmk_l (hN : N ≤ 8) (hp : post (nI (et_mk nd N))) : ∀ d i, 1 ≤ i → i + d = N → wX_maskOfReached_4 post (nI N) (nI M) sd an (nI h) tk ac sn wd nd ns st se re (d + 1) (nI (et_mk nd i)) (nI i) := by
  intro d
  induction d with
  | zero =>
    intro i h1 hi
    have e : i = N := by omega
    subst e
    exact br_t (nI_le (by omega) (by omega)) hp
  | succ d ih =>
    intro i h1 hi
    have hr := ih (i + 1) (by omega) (by omega)
    have hc := nI_clamp (show i < 2 ^ 31 by omega)
    refine br_f (nI_ge (by omega) (by omega)) ⟨vp_in_nI (by omega) (by decide), br_c (fun z => ?_) (fun z => ?_)⟩
    · rw [hc] at z
      rw [et_mk_f (fun w => by
        rcases w with w | w
        · omega
        · exact absurd z (Int32.not_le.mpr w))] at hr
      exact nm_r (nI_1 i) hr
    · rw [hc] at z
      rw [et_mk_t (Or.inr (Int32.not_le.mp z))] at hr
      refine nm_r ?_ (nm_r (nI_1 i) hr)
      rw [et_sh i (by omega), et_ior i (by omega) _ (et_mk_lt nd i)]
theorem et_xmk (hN0 : 1 ≤ N) (hN : N ≤ 8) (hp : post (nI (et_mk nd N))) : wpX_maskOfReached post (nI N, nI M, sd, an, nI h, tk, ac, sn, wd, nd, ns, st, se, re) := by
  have := et_xmk_l (h := h) (sd := sd) (an := an) (tk := tk) (ac := ac) (sn := sn) (wd := wd) (ns := ns) (st := st) (se := se) (re := re) (M := M) hN hp (N - 1) 1 (by omega) (by omega)
  rw [et_mk_1] at this
  exact ⟨_, this⟩
end ETX
