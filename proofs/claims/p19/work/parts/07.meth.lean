section EMA
variable {N M h : Nat} {sd an t r tk : Int32} {ac sn wd nd ns st se re : Nat → Int32}
/-- homecoming of p, owed -/
theorem ej_xhome (hN : N ≤ 8) (hM : M ≤ 32) {p : Nat} (hp : p < N) (hK : ej_K N M sd t r ac st se re nd ns (fun b => b = p)) : ∃ st' : Nat → Int32, ej_K N M sd t r ac st' se re nd ns (fun _ => False) ∧ (∀ j, st' j = 1 ↔ st j = 1) ∧ (∀ j, st' j ≠ 0 ↔ st j ≠ 0) ∧ (∀ (an : Int32) (post : St2 → Prop), post (nI N, nI M, sd, an, nI h, tk, ac, sn, wd, nd, ns, st', se, re) → wpX_comeHome post (nI N, nI M, sd, an, nI h, tk, ac, sn, wd, nd, ns, st, se, re) (nI p)) := by
  rcases et_first (fun j => st j = 2 ∧ re j = nI p) M with h0 | ⟨s, hs, ⟨h2, hr⟩, hn⟩
  · exact ⟨st, ej_nohome hN hp hK (Or.inl (fun j hj e e' => h0 j hj ⟨e, e'⟩)), fun _ => Iff.rfl, fun _ => Iff.rfl, fun an post hq => et_xhome_n hN hM hp (Or.inl h0) hq⟩
  · by_cases ha : ac p = 0
    · by_cases hd : ej_def M st se p
      · obtain ⟨i, hi, e1, e2⟩ := hd
        have hc := ej_cnp e1 e2 M hi
        exact ⟨st, ej_nohome hN hp hK (Or.inr (Or.inr ⟨i, hi, e1, e2⟩)), fun _ => Iff.rfl, fun _ => Iff.rfl, fun an post hq => et_xhome_n hN hM hp (Or.inr (Or.inr (by omega))) hq⟩
      · have hc : et_cn st se (nI p) M = 0 := ej_cn0 M (fun i hi e1 e2 => hd ⟨i, hi, e1, e2⟩)
        refine ⟨upd st s 3, ej_home hN hK hp hs h2 hr ha hd, fun j => ?_, fun j => ?_, fun an post hq => et_xhome_y hN hM hp hs h2 hr hn ha hc hq⟩
        · by_cases e : j = s
          · subst e; rw [pk_us, h2]; exact ⟨fun z => absurd z (by decide), fun z => absurd z (by decide)⟩
          · rw [pk_un e]
        · by_cases e : j = s
          · subst e; rw [pk_us, h2]; exact ⟨fun _ => et_n20, fun _ => et_n30⟩
          · rw [pk_un e]
    · exact ⟨st, ej_nohome hN hp hK (Or.inr (Or.inl ha)), fun _ => Iff.rfl, fun _ => Iff.rfl, fun an post hq => et_xhome_n hN hM hp (Or.inr (Or.inl ha)) hq⟩
/-- the TREE RULE -/
theorem ej_xrule (hN : N ≤ 8) (hM : M ≤ 32) (ht : et_b t) (hr : et_b r) (hK : ej_K N M sd t r ac st se re nd ns (fun _ => False)) : ∃ t' : Int32, et_b t' ∧ (t ≠ 0 → t' ≠ 0) ∧ ej_J N M sd t' r ac st se re nd ns ∧ (∀ post : St2 → Prop, post (nI N, nI M, sd, et_an t' r, nI h, tk, ac, sn, wd, nd, ns, st, se, re) → wpX_applyTreeRule post (nI N, nI M, sd, et_an t r, nI h, tk, ac, sn, wd, nd, ns, st, se, re)) := by
  by_cases h0 : sd = 0
  · exact ⟨t, ht, id, ej_notree hK (Or.inl h0), fun post hq => et_xtree_n hN hM (Or.inl h0) hq⟩
  · rcases et_first (fun j => ac j ≠ 0) N with hA | ⟨p, hpN, hA, -⟩
    · rcases et_first (fun j => st j ≠ 0) M with hF | ⟨s, hs, hF, -⟩
      · have hA' : ∀ j, j < N → ac j = 0 := fun j hj => Decidable.not_not.mp (hA j hj)
        have hF' : ∀ j, j < M → st j = 0 := fun j hj => Decidable.not_not.mp (hF j hj)
        refine ⟨1, et_b1, fun _ => et_n10, ej_tree hK hF' hA', fun post hq => et_xtree_y hN hM h0 hA' hF' ?_⟩
        rw [et_or1 ht hr]; exact hq
      · exact ⟨t, ht, id, ej_notree hK (Or.inr (Or.inr ⟨s, hs, hF⟩)), fun post hq => et_xtree_n hN hM (Or.inr (Or.inr ⟨s, hs, hF⟩)) hq⟩
    · exact ⟨t, ht, id, ej_notree hK (Or.inr (Or.inl ⟨p, hpN, hA⟩)), fun post hq => et_xtree_n hN hM (Or.inr (Or.inl ⟨p, hpN, hA⟩)) hq⟩
/-- an acknowledgement delivered -/
theorem ej_xack (hN : N ≤ 8) (hM : M ≤ 32) (ht : et_b t) (hr : et_b r) {s : Nat} (hs : s < M) (h3 : st s = 3) (hK : ej_K N M sd t r ac st se re nd ns (fun _ => False)) : ∃ (st' : Nat → Int32) (t' : Int32), et_b t' ∧ (t ≠ 0 → t' ≠ 0) ∧ ej_J N M sd t' r ac st' se re nd ns ∧ (∀ j, st' j = 1 ↔ st j = 1) ∧ ej_nf st M = ej_nf st' M + 1 ∧ (∀ post : Int32 → St2 → Prop, post 0 (nI N, nI M, sd, et_an t' r, nI h, tk, ac, sn, wd, nd, ns, st', se, re) → wpX_deliverAcknowledgement post (nI N, nI M, sd, et_an t r, nI h, tk, ac, sn, wd, nd, ns, st, se, re) (nI s)) := by
  have s0 : st s ≠ 0 := by rw [h3]; exact et_n30
  obtain ⟨⟨a, ha, ea⟩, -⟩ := hK.1.2.1 s hs s0
  obtain ⟨st', K', f1, f2, hX⟩ := ej_xhome (h := h) (tk := tk) (sn := sn) (wd := wd) hN hM ha (ej_ack hN hK ha hs h3 ea)
  obtain ⟨t', ht', tt, J', gX⟩ := ej_xrule (h := h) (tk := tk) (sn := sn) (wd := wd) hN hM ht hr K'
  have hc := nI_clamp (show s < 2 ^ 31 by omega)
  refine ⟨st', t', ht', tt, J', fun j => ?_, ?_, fun post hp => ?_⟩
  · rw [f1 j]
    by_cases e : j = s
    · subst e; rw [pk_us, h3]; exact ⟨fun z => absurd z (by decide), fun z => absurd z (by decide)⟩
    · rw [pk_un e]
  · rw [ej_nf_dn s0 M hs, ej_nf_c (f := st') (g := upd st s 0) M (fun j _ => f2 j)]
  · unfold wpX_deliverAcknowledgement
    refine ⟨vp_in_nI (by omega) (by decide), nm_r (by rw [hc]) ⟨vp_in_nI (by omega) (by decide), ?_⟩⟩
    rw [hc, ea]
    exact hX _ _ (gX _ hp)
end EMA
section EMB
/-- a state of the class that keeps the invariant; q: an announcement was seen -/
def ej_G (N M : Nat) (sd : Int32) (q : Prop) (u : St2) : Prop :=
  ∃ (h : Nat) (t r tk : Int32) (ac sn wd nd ns st se re : Nat → Int32), u = (nI N, nI M, sd, et_an t r, nI h, tk, ac, sn, wd, nd, ns, st, se, re) ∧ h < N ∧ et_b t ∧ et_b r ∧ ej_J N M sd t r ac st se re nd ns ∧ (q → t ≠ 0 ∨ r ≠ 0)
variable {N M h : Nat} {sd an t r tk : Int32} {ac sn wd nd ns st se re : Nat → Int32} {q : Prop}
theorem ej_GI (hh : h < N) (ht : et_b t) (hr : et_b r) (hJ : ej_J N M sd t r ac st se re nd ns) (hq : q → t ≠ 0 ∨ r ≠ 0) : ej_G N M sd q (nI N, nI M, sd, et_an t r, nI h, tk, ac, sn, wd, nd, ns, st, se, re) :=
  ⟨h, t, r, tk, ac, sn, wd, nd, ns, st, se, re, rfl, hh, ht, hr, hJ, hq⟩
theorem ej_ix (x : Int32) {n : Nat} (hn : n < 2 ^ 31) : (x < 0 ∨ nI n ≤ x) ∨ ∃ j : Nat, j < n ∧ x = nI j := by
  rcases pk_ix x hn with a | a | a
  · exact Or.inl (Or.inl a)
  · exact Or.inl (Or.inr a)
  · exact Or.inr a
theorem ej_mwork (hN : N ≤ 8) {u : St2} (g : ej_G N M sd q u) (x y : Int32) {post : Int32 → St2 → Prop} (hp : ∀ rr u', ej_G N M sd q u' → post rr u') : wpX_work post u x y := by
  obtain ⟨h, t, r, tk, ac, sn, wd, nd, ns, st, se, re, rfl, hh, ht, hr, hJ, hq⟩ := g
  unfold wpX_work
  rcases ej_ix x (n := N) (by omega) with hx | ⟨j, hj, rfl⟩
  · exact et_xP_f hx (br_t rfl (hp _ _ (ej_GI hh ht hr hJ hq)))
  · have hv : vp_in (nI j) 8 := vp_in_nI (by omega) (by decide)
    exact et_xP_t hN hj (br_f et_n10 ⟨hv, br_c (fun _ => hp _ _ (ej_GI hh ht hr hJ hq)) (fun _ => ⟨hv, hv, nm_e (hp _ _ (ej_GI hh ht hr hJ hq))⟩)⟩)
theorem ej_msend (hN : N ≤ 8) (hM : M ≤ 32) {u : St2} (g : ej_G N M sd q u) (x y : Int32) {post : Int32 → St2 → Prop} (hp : ∀ rr u', ej_G N M sd q u' → post rr u') : wpX_send post u x y := by
  obtain ⟨h, t, r, tk, ac, sn, wd, nd, ns, st, se, re, rfl, hh, ht, hr, hJ, hq⟩ := g
  unfold wpX_send
  rcases ej_ix x (n := N) (by omega) with hx | ⟨a, ha, rfl⟩
  · exact et_xP_f hx (br_t rfl (hp _ _ (ej_GI hh ht hr hJ hq)))
  · refine et_xP_t hN ha (br_f et_n10 ?_)
    rcases ej_ix y (n := N) (by omega) with hx | ⟨b, hb, rfl⟩
    · exact et_xP_f hx (br_t rfl (hp _ _ (ej_GI hh ht hr hJ hq)))
    · have hv : vp_in (nI a) 8 := vp_in_nI (by omega) (by decide)
      have hc := nI_clamp (show a < 2 ^ 31 by omega)
      refine et_xP_t hN hb (br_f et_n10 ⟨hv, br_c (fun _ => hp _ _ (ej_GI hh ht hr hJ hq)) (fun z => ?_)⟩)
      rw [hc] at z
      rcases et_first (fun j => st j = 0) M with h0 | ⟨s, hs, h0, hn⟩
      · exact et_xlow_n hM h0 (br_t rfl (hp _ _ (ej_GI hh ht hr hJ hq)))
      · have hvs : vp_in (nI s) 32 := vp_in_nI (by omega) (by decide)
        have hcs := nI_clamp (show s < 2 ^ 31 by omega)
        exact et_xlow_s hM hs h0 hn (br_f (et_m1 (by omega)) ⟨hvs, nm_r (by rw [hcs]) ⟨hvs, nm_r (by rw [hcs]) ⟨hvs, nm_r (by rw [hcs]) ⟨hv, hv, nm_r (by rw [hc]) (hp _ _ (ej_GI hh ht hr (ej_send hN hJ.1 ha hb hs h0 z) hq))⟩⟩⟩⟩)
theorem ej_mrest (hN : N ≤ 8) (hM : M ≤ 32) {u : St2} (g : ej_G N M sd q u) (x : Int32) {post : Int32 → St2 → Prop} (hp : ∀ rr u', ej_G N M sd q u' → post rr u') : wpX_rest post u x := by
  obtain ⟨h, t, r, tk, ac, sn, wd, nd, ns, st, se, re, rfl, hh, ht, hr, hJ, hq⟩ := g
  unfold wpX_rest
  rcases ej_ix x (n := N) (by omega) with hx | ⟨j, hj, rfl⟩
  · exact et_xP_f hx (br_t rfl (hp _ _ (ej_GI hh ht hr hJ hq)))
  · have hv : vp_in (nI j) 8 := vp_in_nI (by omega) (by decide)
    have hc := nI_clamp (show j < 2 ^ 31 by omega)
    refine et_xP_t hN hj (br_f et_n10 ⟨hv, br_c (fun _ => hp _ _ (ej_GI hh ht hr hJ hq)) (fun _ => ⟨hv, nm_r (e' := upd ac j 0) (by rw [hc]) ?_⟩)⟩)
    obtain ⟨st', K', -, -, hX⟩ := ej_xhome (h := h) (tk := tk) (sn := sn) (wd := wd) hN hM hj (ej_rest hJ.1 j)
    obtain ⟨t', ht', tt, J', gX⟩ := ej_xrule (h := h) (tk := tk) (sn := sn) (wd := wd) hN hM ht hr K'
    exact hX _ _ (gX _ (hp _ _ (ej_GI hh ht' hr J' (fun z => (hq z).imp tt id))))
theorem ej_mdeliver (hN : N ≤ 8) (hM : M ≤ 32) {u : St2} (g : ej_G N M sd q u) (x : Int32) {post : Int32 → St2 → Prop} (hp : ∀ rr u', ej_G N M sd q u' → post rr u') : wpX_deliver post u x := by
  obtain ⟨h, t, r, tk, ac, sn, wd, nd, ns, st, se, re, rfl, hh, ht, hr, hJ, hq⟩ := g
  unfold wpX_deliver
  rcases ej_ix x (n := M) (by omega) with hx | ⟨s, hs, rfl⟩
  · exact et_xS_f hx (br_t rfl (hp _ _ (ej_GI hh ht hr hJ hq)))
  · have hv : vp_in (nI s) 32 := vp_in_nI (by omega) (by decide)
    have hc := nI_clamp (show s < 2 ^ 31 by omega)
    refine et_xS_t hM hs (br_f et_n10 ⟨hv, br_c (fun g => ?_) (fun _ => ⟨hv, br_c (fun g => ?_) (fun _ => hp _ _ (ej_GI hh ht hr hJ hq))⟩)⟩)
    · rw [hc] at g
      have s0 : st s ≠ 0 := by rw [g]; exact et_n10
      obtain ⟨-, b, hb, eb⟩ := hJ.1.1.2.1 s hs s0
      have hvq : vp_in (nI b) 8 := vp_in_nI (by omega) (by decide)
      have hcq := nI_clamp (show b < 2 ^ 31 by omega)
      have key : ∀ c : Int32, ((c = 3 ∧ et_eng M sd t st re b) ∨ (c = 2 ∧ ¬ et_eng M sd t st re b)) → wX_deliverWork_25 post (nI s) (nI b) c (nI s) (nI N) (nI M) sd (et_an t r) (nI h) tk ac sn wd nd ns st se re := by
        intro c hc1
        exact ⟨hv, nm_r (e' := upd st s c) (by rw [hc]) ⟨hvq, nm_r (e' := upd ac b 1) (by rw [hcq]) ⟨hvq, nm_r (e' := upd sn b 1) (by rw [hcq]) ⟨hvq, hvq, nm_r (e' := upd nd b (nd b + 1)) (by rw [hcq]) ⟨hv, hp _ _ (ej_GI hh ht hr (ej_work hN ht hJ.1 hb hs g eb hc1) hq)⟩⟩⟩⟩⟩
      unfold wpX_deliverWork
      refine ⟨hv, nm_r (show re (nI s).toNatClampNeg = nI b by rw [hc]; exact eb) ?_⟩
      by_cases he : et_eng M sd t st re b
      · exact et_xeng_t hN hM hb ht hr he (br_f et_n10 (key 3 (Or.inl ⟨rfl, he⟩)))
      · exact et_xeng_f hN hM hb ht hr he (br_t rfl (key 2 (Or.inr ⟨rfl, he⟩)))
    · rw [hc] at g
      obtain ⟨st', t', ht', tt, J', -, -, hX⟩ := ej_xack (h := h) (tk := tk) (sn := sn) (wd := wd) hN hM ht hr hs g hJ.1
      exact hX _ (hp _ _ (ej_GI hh ht' hr J' (fun z => (hq z).imp tt id)))
theorem ej_mstart (hN0 : 2 ≤ N) (hN : N ≤ 8) {u : St2} (g : ej_G N M sd q u) {post : Int32 → St2 → Prop} (hp0 : ∀ u', ej_G N M 1 False u' → post 0 u') (hp1 : ∀ rr u', rr ≠ 0 → ej_G N M sd q u' → post rr u') : wpX_start post u := by
  obtain ⟨h, t, r, tk, ac, sn, wd, nd, ns, st, se, re, rfl, hh, ht, hr, hJ, hq⟩ := g
  have key : (sd = 0 ∨ t = 1) → ∃ n, wX_start_20 post (nI N) (nI M) sd (et_an t r) (nI h) tk n 0 ac sn wd nd ns st se re := by
    intro z
    have hF := (hJ.1.1.2.2.2.2 z).1
    refine ⟨N + 1, et_xst_l hN (hp0 _ (ej_GI (h := 0) (t := 0) (r := 0) (by omega) et_b0 et_b0 (ej_start hJ.1.1 (by omega) hF ?_ ?_ ?_ ?_) (fun y => absurd y id))) N 0 (by omega)⟩
    · rw [et_ca_at ac N (by omega), if_pos rfl]; exact et_n10
    · intro p hpN p0; rw [et_ca_at ac N hpN, if_neg p0]
    · exact fun p hpN => et_cl_at nd N hpN
    · exact fun p hpN => et_cl_at ns N hpN
  unfold wpX_start
  refine br_c (fun z => key (Or.inl z)) (fun z => br_c (fun y => key (Or.inr ?_)) (fun y => hp1 _ _ (by decide) (ej_GI hh ht hr hJ hq)))
  exact et_bn ht ((et_an3 ht hr).mp y).1
end EMB
