section ETS
variable {N M h : Nat} {sd an t r tk : Int32} {ac sn wd nd ns st se re T : Nat → Int32}
-- start, the class's loop
theorem et_xst_l {post : Int32 → SX → Prop} (hN : N ≤ 8) (hp : post 0 (nI N, nI M, 1, 0, 0, 1, et_ca ac N, et_cl sn N, et_cl wd N, et_cl nd N, et_cl ns N, st, se, re)) : ∀ d i, i + d = N → wX_start_20 post (nI N) (nI M) sd an (nI h) tk (d + 1) (nI i) (et_ca ac i) (et_cl sn i) (et_cl wd i) (et_cl nd i) (et_cl ns i) st se re := by
  intro d
  induction d with
  | zero =>
    intro i hi
    have e : i = N := by omega
    subst e
    exact br_t (nI_le (by omega) (by omega)) hp
  | succ d ih =>
    intro i hi
    have hv : vp_in (nI i) 8 := vp_in_nI (by omega) (by decide)
    have hc := nI_clamp (show i < 2 ^ 31 by omega)
    have key : ∀ z0 : Int32, vp_nar .boolean z0 = (if i = 0 then 1 else 0) → wX_start_42 post (wX_start_20 post (nI N) (nI M) sd an (nI h) tk (d + 1)) (nI i) z0 (nI i) (nI N) (nI M) sd an (nI h) tk (et_ca ac i) (et_cl sn i) (et_cl wd i) (et_cl nd i) (et_cl ns i) st se re := by
      intro z0 hz
      refine ⟨hv, nm_r (e' := et_ca ac (i + 1)) (by rw [hc, hz]; rfl) ⟨hv, nm_r (e' := et_cl sn (i + 1)) (by rw [hc, et_vb0]; rfl) ⟨hv, nm_r (e' := et_cl wd (i + 1)) (by rw [hc]; rfl) ⟨hv, nm_r (e' := et_cl nd (i + 1)) (by rw [hc]; rfl) ⟨hv, nm_r (e' := et_cl ns (i + 1)) (by rw [hc]; rfl) (nm_r (nI_1 i) (ih (i + 1) (by omega)))⟩⟩⟩⟩⟩
    refine br_f (nI_ge (by omega) (by omega)) (br_c (fun z => key 1 ?_) (fun z => key 0 ?_))
    · rw [if_pos ((nI_eq (by omega) (by decide)).mp z)]; exact et_vb1
    · rw [if_neg (fun y => z (by rw [y]; exact nI_0))]; exact et_vb0
-- start, the reference's loops
theorem et_yst2_l {post : Int32 → SY → Prop} (hp : post 0 (nI N, nI M, 1, 0, 0, 0, 1, st, se, re, ac, sn, et_cl T 24)) : ∀ d i, i + d = 24 → wY_start_64 post (nI N) (nI M) sd t r (nI h) tk (d + 1) (nI i) st se re ac sn (et_cl T i) := by
  intro d
  induction d with
  | zero =>
    intro i hi
    have e : i = 24 := by omega
    subst e
    exact br_t (by decide) hp
  | succ d ih =>
    intro i hi
    have hv : vp_in (nI i) 24 := vp_in_nI (by omega) (by decide)
    have hc := nI_clamp (show i < 2 ^ 31 by omega)
    exact br_f (nI_ge (b := 24) (by omega) (by decide)) ⟨hv, nm_r (e' := et_cl T (i + 1)) (by rw [hc]; rfl) (nm_r (nI_1 i) (ih (i + 1) (by omega)))⟩
theorem et_yst1_l {post : Int32 → SY → Prop} (hN : N ≤ 8) (hp : post 0 (nI N, nI M, 1, 0, 0, 0, 1, st, se, re, et_ca ac N, et_cl sn N, et_cl T 24)) : ∀ d i, i + d = N → wY_start_26 post (nI N) (nI M) sd t r (nI h) tk (d + 1) (nI i) st se re (et_ca ac i) (et_cl sn i) T := by
  intro d
  induction d with
  | zero =>
    intro i hi
    have e : i = N := by omega
    subst e
    exact br_t (nI_le (by omega) (by omega)) ⟨25, et_yst2_l hp 24 0 (by omega)⟩
  | succ d ih =>
    intro i hi
    have hv : vp_in (nI i) 8 := vp_in_nI (by omega) (by decide)
    have hc := nI_clamp (show i < 2 ^ 31 by omega)
    have key : ∀ z0 : Int32, vp_nar .boolean z0 = (if i = 0 then 1 else 0) → wY_start_48 post (wY_start_26 post (nI N) (nI M) sd t r (nI h) tk (d + 1)) (nI i) z0 (nI i) (nI N) (nI M) sd t r (nI h) tk st se re (et_ca ac i) (et_cl sn i) T := by
      intro z0 hz
      refine ⟨hv, nm_r (e' := et_ca ac (i + 1)) (by rw [hc, hz]; rfl) ⟨hv, nm_r (e' := et_cl sn (i + 1)) (by rw [hc, et_vb0]; rfl) (nm_r (nI_1 i) (ih (i + 1) (by omega)))⟩⟩
    refine br_f (nI_ge (by omega) (by omega)) (br_c (fun z => key 1 ?_) (fun z => key 0 ?_))
    · rw [if_pos ((nI_eq (by omega) (by decide)).mp z)]; exact et_vb1
    · rw [if_neg (fun y => z (by rw [y]; exact nI_0))]; exact et_vb0
end ETS
theorem i_vc_start {k : Nat} {u : SX} {v : SY} (I : i_Rel k u v) (hk : k + 3 ≤ 1538) : wpX_start (fun r u' => wpY_start (fun r' v' => r' = r ∧ i_Rel (k + 3) u' v') v) u := by
  obtain ⟨N, M, h, sd, t, r, tk, ac, sn, wd, nd, ns, st, se, re, T, rfl, rfl, ok, inv⟩ := I
  have J : i_Rel (k + 3) (nI N, nI M, sd, et_an t r, nI h, tk, ac, sn, wd, nd, ns, st, se, re) (nI N, nI M, sd, t, r, nI h, tk, st, se, re, ac, sn, T) := et_R ok inv
  obtain ⟨n1, n2, m1, m2, hh, ht, hr, hT⟩ := ok
  have J1 : i_Rel (k + 3) (nI N, nI M, 1, 0, 0, 1, et_ca ac N, et_cl sn N, et_cl wd N, et_cl nd N, et_cl ns N, st, se, re) (nI N, nI M, 1, 0, 0, 0, 1, st, se, re, et_ca ac N, et_cl sn N, et_cl T 24) :=
    et_R (h := 0) (t := 0) (r := 0) ⟨n1, n2, m1, m2, by omega, et_b0, et_b0, fun p hp => ⟨by rw [et_cl_at T 24 (by omega), et_cl_at wd N hp], by rw [et_cl_at T 24 (by omega), et_cl_at nd N hp], by rw [et_cl_at T 24 (by omega), et_cl_at ns N hp]⟩⟩ (et_start inv _)
  unfold wpX_start wpY_start
  by_cases h0 : sd = 0
  · exact br_t h0 ⟨N + 1, et_xst_l n2 (br_t h0 ⟨N + 1, et_yst1_l n2 ⟨rfl, J1⟩ N 0 (by omega)⟩) N 0 (by omega)⟩
  · refine br_f h0 (br_c (fun z => ?_) (fun z => br_f h0 (br_c (fun _ => ⟨rfl, J⟩) (fun y => br_c (fun _ => ⟨rfl, J⟩) (fun w => absurd ((et_an3 ht hr).mpr ⟨y, w⟩) z)))))
    have g := (et_an3 ht hr).mp z
    exact ⟨N + 1, et_xst_l n2 (br_f h0 (br_f g.1 (br_f g.2 ⟨N + 1, et_yst1_l n2 ⟨rfl, J1⟩ N 0 (by omega)⟩))) N 0 (by omega)⟩
theorem i_vc_work {k : Nat} {u : SX} {v : SY} (I : i_Rel k u v) (hk : k + 3 ≤ 1538) (v1 : Int32) (v2 : Int32) : wpX_work (fun r u' => wpY_work (fun r' v' => r' = r ∧ i_Rel (k + 3) u' v') v v1 v2) u v1 v2 := by
  obtain ⟨N, M, h, sd, t, r, tk, ac, sn, wd, nd, ns, st, se, re, T, rfl, rfl, ok, inv⟩ := I
  have J : i_Rel (k + 3) (nI N, nI M, sd, et_an t r, nI h, tk, ac, sn, wd, nd, ns, st, se, re) (nI N, nI M, sd, t, r, nI h, tk, st, se, re, ac, sn, T) := et_R ok inv
  obtain ⟨n1, n2, m1, m2, hh, ht, hr, hT⟩ := ok
  unfold wpX_work wpY_work
  rcases et_ix v1 (n := N) (by omega) with hx | ⟨j, hj, rfl⟩
  · exact et_xP_f hx (br_t rfl (et_o1 hx ⟨rfl, J⟩))
  · have hv : vp_in (nI j) 8 := vp_in_nI (by omega) (by decide)
    have hv2 : vp_in (nI j) 24 := vp_in_nI (by omega) (by decide)
    have hc := nI_clamp (show j < 2 ^ 31 by omega)
    refine et_xP_t n2 hj (br_f et_n10 ⟨hv, br_c (fun z => et_i1 (by omega) hj ⟨hv, br_t z ⟨rfl, J⟩⟩) (fun z => ⟨hv, hv, nm_e (et_i1 (by omega) hj ⟨hv, br_f z ⟨hv2, hv2, nm_e ⟨rfl, ?_⟩⟩⟩)⟩)⟩)
    rw [hc, (hT j hj).1]
    refine et_R ⟨n1, n2, m1, m2, hh, ht, hr, fun p hp => ?_⟩ inv
    obtain ⟨e1, e2, e3⟩ := hT p hp
    refine ⟨?_, by rw [pk_un (by omega)]; exact e2, by rw [pk_un (by omega)]; exact e3⟩
    by_cases e : p = j
    · subst e; rw [pk_us, pk_us]
    · rw [pk_un e, pk_un e]; exact e1
section ETS2
variable {N M h : Nat} {sd t r tk : Int32} {ac sn st se re T : Nat → Int32}
theorem et_ysd_n {post : Int32 → SY → Prop} {x y : Int32} (hM : M ≤ 32) (hp : post (-3) (nI N, nI M, sd, t, r, nI h, tk, st, se, re, ac, sn, T)) : ∀ d i, i + d = M → (∀ j, i ≤ j → j < M → st j ≠ 0) → wY_send_40 post x y (nI N) (nI M) sd t r (nI h) tk st se re ac sn T (d + 1) (nI i) := by
  intro d
  induction d with
  | zero => exact fun i hi _ => br_t (nI_le (by omega) (by omega)) hp
  | succ d ih =>
    intro i hi hn
    refine br_f (nI_ge (by omega) (by omega)) ⟨vp_in_nI (by omega) (by decide), br_f ?_ (nm_r (nI_1 i) (ih (i + 1) (by omega) (fun j hj => hn j (by omega))))⟩
    rw [nI_clamp (by omega)]; exact hn i (Nat.le_refl i) (by omega)
theorem et_ysd_s {post : Int32 → SY → Prop} {a s : Nat} {y : Int32} (hM : M ≤ 32) (ha : a < 8) (hs : s < M) (h0 : st s = 0) (hp : post (nI s) (nI N, nI M, sd, t, r, nI h, tk, upd st s 1, upd se s (nI a), upd re s y, ac, sn, upd T (16 + a) (T (16 + a) + 1))) : ∀ d i, i + d = s → (∀ j, i ≤ j → j < s → st j ≠ 0) → wY_send_40 post (nI a) y (nI N) (nI M) sd t r (nI h) tk st se re ac sn T (d + 1) (nI i) := by
  intro d
  induction d with
  | zero =>
    intro i hi _
    have e : i = s := by omega
    subst e
    have hv : vp_in (nI i) 32 := vp_in_nI (by omega) (by decide)
    have hc := nI_clamp (show i < 2 ^ 31 by omega)
    have hv2 : vp_in (16 + nI a) 24 := by rw [et_16n]; exact vp_in_nI (by omega) (by decide)
    have hc2 : ((16 : Int32) + nI a).toNatClampNeg = 16 + a := by rw [et_16n]; exact nI_clamp (by omega)
    exact br_f (nI_ge (by omega) (by omega)) ⟨hv, br_t (by rw [hc]; exact h0) ⟨hv, nm_r (by rw [hc]) ⟨hv, nm_r (by rw [hc]) ⟨hv, nm_r (by rw [hc]) ⟨hv2, hv2, nm_r (by rw [hc2]) hp⟩⟩⟩⟩⟩
  | succ d ih =>
    intro i hi hn
    refine br_f (nI_ge (by omega) (by omega)) ⟨vp_in_nI (by omega) (by decide), br_f ?_ (nm_r (nI_1 i) (ih (i + 1) (by omega) (fun j hj => hn j (by omega))))⟩
    rw [nI_clamp (by omega)]; exact hn i (Nat.le_refl i) (by omega)
end ETS2
theorem i_vc_send {k : Nat} {u : SX} {v : SY} (I : i_Rel k u v) (hk : k + 3 ≤ 1538) (v1 : Int32) (v2 : Int32) : wpX_send (fun r u' => wpY_send (fun r' v' => r' = r ∧ i_Rel (k + 3) u' v') v v1 v2) u v1 v2 := by
  obtain ⟨N, M, h, sd, t, r, tk, ac, sn, wd, nd, ns, st, se, re, T, rfl, rfl, ok, inv⟩ := I
  have J : i_Rel (k + 3) (nI N, nI M, sd, et_an t r, nI h, tk, ac, sn, wd, nd, ns, st, se, re) (nI N, nI M, sd, t, r, nI h, tk, st, se, re, ac, sn, T) := et_R ok inv
  obtain ⟨n1, n2, m1, m2, hh, ht, hr, hT⟩ := ok
  unfold wpX_send wpY_send
  rcases et_ix v1 (n := N) (by omega) with hx | ⟨a, ha, rfl⟩
  · exact et_xP_f hx (br_t rfl (et_o2 hx ⟨rfl, J⟩))
  · refine et_xP_t n2 ha (br_f et_n10 ?_)
    rcases et_ix v2 (n := N) (by omega) with hx | ⟨b, hb, rfl⟩
    · exact et_xP_f hx (br_t rfl (et_i2 (by omega) ha (et_o1 hx ⟨rfl, J⟩)))
    · have hv : vp_in (nI a) 8 := vp_in_nI (by omega) (by decide)
      have hc := nI_clamp (show a < 2 ^ 31 by omega)
      refine et_xP_t n2 hb (br_f et_n10 ⟨hv, br_c (fun z => et_i2 (by omega) ha (et_i1 (by omega) hb ⟨hv, br_t z ⟨rfl, J⟩⟩)) (fun z => ?_)⟩)
      have z' : ac a ≠ 0 := by rw [hc] at z; exact z
      rcases et_first (fun j => st j = 0) M with h0 | ⟨s, hs, h0, hn⟩
      · exact et_xlow_n m2 h0 (br_t rfl (et_i2 (by omega) ha (et_i1 (by omega) hb ⟨hv, br_f z ⟨M + 1, et_ysd_n m2 ⟨rfl, J⟩ M 0 (by omega) (fun j _ => h0 j)⟩⟩)))
      · have hvs : vp_in (nI s) 32 := vp_in_nI (by omega) (by decide)
        have hcs := nI_clamp (show s < 2 ^ 31 by omega)
        refine et_xlow_s m2 hs h0 hn (br_f (et_m1 (by omega)) ⟨hvs, nm_r (by rw [hcs]) ⟨hvs, nm_r (by rw [hcs]) ⟨hvs, nm_r (by rw [hcs]) ⟨hv, hv, nm_r (by rw [hc]) (et_i2 (by omega) ha (et_i1 (by omega) hb ⟨hv, br_f z ⟨s + 1, et_ysd_s m2 (by omega) hs h0 ⟨rfl, ?_⟩ s 0 (by omega) (fun j _ => hn j)⟩⟩))⟩⟩⟩⟩)
        refine et_R ⟨n1, n2, m1, m2, hh, ht, hr, fun p hp => ?_⟩ (et_send inv ha hb z')
        obtain ⟨e1, e2, e3⟩ := hT p hp
        refine ⟨by rw [pk_un (by omega)]; exact e1, by rw [pk_un (by omega)]; exact e2, ?_⟩
        by_cases e : p = a
        · subst e; rw [pk_us, pk_us, e3]
        · rw [pk_un (by omega), pk_un e]; exact e3
theorem i_vc_rest {k : Nat} {u : SX} {v : SY} (I : i_Rel k u v) (hk : k + 3 ≤ 1538) (v1 : Int32) : wpX_rest (fun r u' => wpY_rest (fun r' v' => r' = r ∧ i_Rel (k + 3) u' v') v v1) u v1 := by
  obtain ⟨N, M, h, sd, t, r, tk, ac, sn, wd, nd, ns, st, se, re, T, rfl, rfl, ok, inv⟩ := I
  have J : i_Rel (k + 3) (nI N, nI M, sd, et_an t r, nI h, tk, ac, sn, wd, nd, ns, st, se, re) (nI N, nI M, sd, t, r, nI h, tk, st, se, re, ac, sn, T) := et_R ok inv
  obtain ⟨n1, n2, m1, m2, hh, ht, hr, hT⟩ := ok
  unfold wpX_rest wpY_rest
  rcases et_ix v1 (n := N) (by omega) with hx | ⟨j, hj, rfl⟩
  · exact et_xP_f hx (br_t rfl (et_o1 hx ⟨rfl, J⟩))
  · have hv : vp_in (nI j) 8 := vp_in_nI (by omega) (by decide)
    have hc := nI_clamp (show j < 2 ^ 31 by omega)
    refine et_xP_t n2 hj (br_f et_n10 ⟨hv, br_c (fun z => et_i1 (by omega) hj ⟨hv, br_t z ⟨rfl, J⟩⟩) (fun z => ⟨hv, nm_r (e' := upd ac j 0) (by rw [hc, et_vb0]) ?_⟩)⟩)
    obtain ⟨st', I', hX, hY⟩ := et_home (h := h) (tk := tk) (r := r) (sn := sn) (wd := wd) (nd := nd) (ns := ns) (T := T) n2 m2 hj (et_rest inv j)
    obtain ⟨t', ht', I'', gX, gY⟩ := et_rule (h := h) (tk := tk) (r := r) (sn := sn) (wd := wd) (nd := nd) (ns := ns) (T := T) n2 m2 ht hr I'
    refine hX _ _ (gX _ (et_i1 (by omega) hj ⟨hv, br_f z ⟨hv, nm_r (e' := upd ac j 0) (by rw [hc, et_vb0]) (hY _ (gY _ ⟨rfl, ?_⟩))⟩⟩))
    exact et_R ⟨n1, n2, m1, m2, hh, ht', hr, hT⟩ I''
theorem i_vc_deliver {k : Nat} {u : SX} {v : SY} (I : i_Rel k u v) (hk : k + 3 ≤ 1538) (v1 : Int32) : wpX_deliver (fun r u' => wpY_deliver (fun r' v' => r' = r ∧ i_Rel (k + 3) u' v') v v1) u v1 := by
  obtain ⟨N, M, h, sd, t, r, tk, ac, sn, wd, nd, ns, st, se, re, T, rfl, rfl, ok, inv⟩ := I
  have J : i_Rel (k + 3) (nI N, nI M, sd, et_an t r, nI h, tk, ac, sn, wd, nd, ns, st, se, re) (nI N, nI M, sd, t, r, nI h, tk, st, se, re, ac, sn, T) := et_R ok inv
  obtain ⟨n1, n2, m1, m2, hh, ht, hr, hT⟩ := ok
  unfold wpX_deliver
  rcases et_ix v1 (n := M) (by omega) with hx | ⟨s, hs, rfl⟩
  · refine et_xS_f hx (br_t rfl ?_)
    unfold wpY_deliver
    exact et_o1 hx ⟨rfl, J⟩
  · have hv : vp_in (nI s) 32 := vp_in_nI (by omega) (by decide)
    have hc := nI_clamp (show s < 2 ^ 31 by omega)
    refine et_xS_t m2 hs (br_f et_n10 ⟨hv, ?_⟩)
    rcases inv.1 s hs with g | g | g | g
    · refine br_f (by rw [hc, g]; decide) ⟨hv, br_f (by rw [hc, g]; decide) ?_⟩
      unfold wpY_deliver
      exact et_i1 (by omega) hs ⟨hv, br_t (by rw [hc]; exact g) ⟨rfl, J⟩⟩
    · -- FLYING
      refine br_t (by rw [hc]; exact g) ?_
      have s0 : st s ≠ 0 := by rw [g]; exact et_n10
      obtain ⟨-, q, hq, eq⟩ := inv.2.1 s hs s0
      have hvq : vp_in (nI q) 8 := vp_in_nI (by omega) (by decide)
      have hcq := nI_clamp (show q < 2 ^ 31 by omega)
      have hv8 : vp_in (8 + nI q) 24 := by rw [et_8n]; exact vp_in_nI (by omega) (by decide)
      have hc8 : ((8 : Int32) + nI q).toNatClampNeg = 8 + q := by rw [et_8n]; exact nI_clamp (by omega)
      have hx : re (nI s).toNatClampNeg = nI q := by rw [hc]; exact eq
      have hTT : ∀ p, p < N → upd T (8 + q) (T (8 + q) + 1) p = wd p ∧ upd T (8 + q) (T (8 + q) + 1) (8 + p) = upd nd q (nd q + 1) p ∧ upd T (8 + q) (T (8 + q) + 1) (16 + p) = ns p := by
        intro p hp
        obtain ⟨e1, e2, e3⟩ := hT p hp
        refine ⟨by rw [pk_un (by omega)]; exact e1, ?_, by rw [pk_un (by omega)]; exact e3⟩
        by_cases e : p = q
        · subst e; rw [pk_us, pk_us, e2]
        · rw [pk_un (by omega), pk_un e]; exact e2
      have key : ∀ c : Int32, (c = 0 ∨ c = 3 ∨ (c = 2 ∧ re s ≠ 0 ∧ ∀ j, j < M → st j = 2 → re j ≠ re s)) → c ≠ 0 →
          ((∀ post : Int32 → SY → Prop, wY_deliver_71 post (nI s) (nI q) c (nI s) (nI N) (nI M) sd t r (nI h) tk st se re ac sn T → wpY_deliver post (nI N, nI M, sd, t, r, nI h, tk, st, se, re, ac, sn, T) (nI s))) →
          wX_deliverWork_25 (fun r_36 u => wpY_deliver (fun r' v' => r' = r_36 ∧ i_Rel (k + 3) u v') (nI N, nI M, sd, t, r, nI h, tk, st, se, re, ac, sn, T) (nI s)) (nI s) (nI q) c (nI s) (nI N) (nI M) sd (et_an t r) (nI h) tk ac sn wd nd ns st se re := by
        intro c hc1 hc0 hY
        refine ⟨hv, nm_r (e' := upd st s c) (by rw [hc]) ⟨hvq, nm_r (e' := upd ac q 1) (by rw [hcq, et_vb1]) ⟨hvq, nm_r (e' := upd sn q 1) (by rw [hcq, et_vb1]) ⟨hvq, hvq, nm_r (e' := upd nd q (nd q + 1)) (by rw [hcq]) ⟨hv, hY _ ?_⟩⟩⟩⟩⟩
        refine ⟨hv, nm_r (e' := upd st s c) (by rw [hc]) ⟨hvq, nm_r (e' := upd ac q 1) (by rw [hcq, et_vb1]) ⟨hvq, nm_r (e' := upd sn q 1) (by rw [hcq, et_vb1]) ⟨hv8, hv8, nm_r (e' := upd T (8 + q) (T (8 + q) + 1)) (by rw [hc8]) ⟨hv, rfl, ?_⟩⟩⟩⟩⟩
        exact et_R ⟨n1, n2, m1, m2, hh, ht, hr, hTT⟩ (et_wake (et_put inv hs s0 hc1) hs (by rw [pk_us]; exact hc0) _)
      have hY0 : ∀ (post : Int32 → SY → Prop), wpY_engaged (fun r_42 => (((r_42 = 0 → (wY_deliver_71 post (nI s) (nI q) 2 (nI s) (nI N) (nI M) sd t r (nI h) tk st se re ac sn T)) ∧ (¬ r_42 = 0 → (wY_deliver_71 post (nI s) (nI q) 3 (nI s) (nI N) (nI M) sd t r (nI h) tk st se re ac sn T))))) (nI N, nI M, sd, t, r, nI h, tk, st, se, re, ac, sn, T) (nI q) → wpY_deliver post (nI N, nI M, sd, t, r, nI h, tk, st, se, re, ac, sn, T) (nI s) := by
        intro post hp
        unfold wpY_deliver
        exact et_i1 (by omega) hs ⟨hv, br_f (by rw [hc]; exact s0) ⟨hv, br_f (by rw [hc, g]; exact et_n12) ⟨hv, br_t (by rw [hc]; exact g) ⟨hv, nm_r hx hp⟩⟩⟩⟩
      unfold wpX_deliverWork
      refine ⟨hv, nm_r hx ?_⟩
      by_cases he : et_eng M sd t st re q
      · exact et_xeng_t n2 m2 hq ht hr he (br_f et_n10 (key 3 (Or.inr (Or.inl rfl)) et_n30 (fun post hp => hY0 post (et_yeng_t n2 m2 hq inv he (br_f et_n10 hp)))))
      · refine et_xeng_f n2 m2 hq ht hr he (br_t rfl (key 2 (Or.inr (Or.inr ⟨rfl, ?_, ?_⟩)) et_n20 (fun post hp => hY0 post (et_yeng_f n2 m2 hq he (br_t rfl hp)))))
        · rw [eq]
          intro w
          have q0 : q = 0 := (nI_eq (by omega) (by decide)).mp w
          refine he (Or.inl ⟨q0, fun y => s0 ((inv.2.2.2.2 (Or.inl y)).1 s hs), ?_⟩)
          rcases ht with y | y
          · exact y
          · exact absurd ((inv.2.2.2.2 (Or.inr y)).1 s hs) s0
        · intro j hj w y
          rw [eq] at y
          refine he (Or.inr ⟨fun y0 => ?_, j, hj, w, y⟩)
          exact inv.2.2.1 j hj w (by rw [y, y0]; exact nI_0)
    · refine br_f (by rw [hc, g]; decide) ⟨hv, br_f (by rw [hc, g]; decide) ?_⟩
      unfold wpY_deliver
      exact et_i1 (by omega) hs ⟨hv, br_f (by rw [hc, g]; decide) ⟨hv, br_t (by rw [hc]; exact g) ⟨rfl, J⟩⟩⟩
    · refine br_f (by rw [hc, g]; decide) ⟨hv, br_t (by rw [hc]; exact g) ?_⟩
      obtain ⟨st', t', ht', I', hX, hY⟩ := et_ack (h := h) (tk := tk) (sn := sn) (wd := wd) (nd := nd) (ns := ns) (T := T) n2 m2 ht hr hs g inv
      exact hX _ (hY _ ⟨rfl, et_R ⟨n1, n2, m1, m2, hh, ht', hr, hT⟩ I'⟩)
