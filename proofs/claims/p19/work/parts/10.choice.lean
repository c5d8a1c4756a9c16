section ELA
/-- what the law's loop asks of its next turn, for every state that keeps the invariant -/
def ej_HJ (N M L i : Nat) (J : Int32 → Int32 → Int32 → Int32 → Int32 → Int32 → Int32 → Int32 → Int32 → Int32 → Int32 → Int32 → Int32 → Int32 → Int32 → (Nat → Int32) → (Nat → Int32) → (Nat → Int32) → (Nat → Int32) → (Nat → Int32) → (Nat → Int32) → (Nat → Int32) → (Nat → Int32) → Prop) : Prop :=
  ∀ (sd x7 x8 x10 x11 x12 x13 : Int32) (kk h : Nat) (t r tk : Int32) (ac sn wd nd ns st se re : Nat → Int32), kk ≤ L + 2 → h < N → et_b t → et_b r → ej_J N M sd t r ac st se re nd ns → (x7 ≠ 0 → t ≠ 0 ∨ r ≠ 0) → J sd x7 x8 (nI kk) x10 x11 x12 x13 (nI i) (nI N) (nI M) sd (et_an t r) (nI h) tk ac sn wd nd ns st se re
variable {N M h L i kk : Nat} {sd an t r tk : Int32} {ac sn wd nd ns st se re xs : Nat → Int32} {post : Int32 → Prop} {J : Int32 → Int32 → Int32 → Int32 → Int32 → Int32 → Int32 → Int32 → Int32 → Int32 → Int32 → Int32 → Int32 → Int32 → Int32 → (Nat → Int32) → (Nat → Int32) → (Nat → Int32) → (Nat → Int32) → (Nat → Int32) → (Nat → Int32) → (Nat → Int32) → (Nat → Int32) → Prop} {kc ks : Nat}
theorem ej_next (HJ : ej_HJ N M L (i + 1) J) {x7 x8 x10 x11 x12 x13 : Int32} (hk : kk ≤ L + 2) {u : St2} (g : ej_G N M sd (x7 ≠ 0) u) : match u with | (f1, f2, f3, f4, f5, f6, b1, b2, b3, b4, b5, b6, b7, b8) => ∀ y : Int32, y = nI i + 1 → J sd x7 x8 (nI kk) x10 x11 x12 x13 y f1 f2 f3 f4 f5 f6 b1 b2 b3 b4 b5 b6 b7 b8 := by
  obtain ⟨h, t, r, tk, ac, sn, wd, nd, ns, st, se, re, rfl, hh, ht, hr, hJ, hq⟩ := g
  exact nm_r (nI_1 i) (HJ sd x7 x8 x10 x11 x12 x13 kk h t r tk ac sn wd nd ns st se re hk hh ht hr hJ hq)
/-- the calls -/
theorem ej_965 (hN0 : 2 ≤ N) (hN : N ≤ 8) (hM : M ≤ 32) (HJ : ej_HJ N M L (i + 1) J) (hk : kk ≤ L + 2) (hh : h < N) (ht : et_b t) (hr : et_b r) (hJ : ej_J N M sd t r ac st se re nd ns) {x7 x17 : Int32} (hq : x7 ≠ 0 → t ≠ 0 ∨ r ≠ 0) (h17 : x17 = 0 ↔ ej_q N M ac st) (x8 x10 x11 x12 x13 x14 x26 x27 x28 : Int32) :
    wL_law_965 post L xs J (nI N) (nI M) sd x7 x8 (nI kk) x10 x11 x12 x13 x14 (nI i) x17 x26 x27 x28 kc ks (nI N) (nI M) sd (et_an t r) (nI h) tk ac sn wd nd ns st se re := by
  have g : ej_G N M sd (x7 ≠ 0) (nI N, nI M, sd, et_an t r, nI h, tk, ac, sn, wd, nd, ns, st, se, re) := ej_GI hh ht hr hJ hq
  unfold wL_law_965
  refine br_c (fun _ => ?_) (fun _ => br_c (fun _ => ?_) (fun _ => br_c (fun _ => ?_) (fun _ => br_c (fun _ => ?_) (fun _ => br_c (fun _ => ?_) (fun _ => br_c (fun _ => ?_) (fun _ => ?_))))))
  · refine ej_mstart hN0 hN g (fun u' g' => ?_) (fun rr u' hrr g' => ?_)
    · obtain ⟨h, t, r, tk, ac, sn, wd, nd, ns, st, se, re, rfl, hh, ht, hr, hJ, hq⟩ := g'
      exact br_t rfl (nm_r (nI_1 i) (HJ _ _ _ _ _ _ _ _ _ _ _ _ _ _ _ _ _ _ _ _ hk hh ht hr hJ (fun z => absurd rfl z)))
    · obtain ⟨h, t, r, tk, ac, sn, wd, nd, ns, st, se, re, rfl, hh, ht, hr, hJ, hq⟩ := g'
      exact br_f hrr (nm_r (nI_1 i) (HJ _ _ _ _ _ _ _ _ _ _ _ _ _ _ _ _ _ _ _ _ hk hh ht hr hJ hq))
  · exact ej_msend hN hM g _ _ (fun rr u' g' => ej_next HJ hk g')
  · exact ej_mdeliver hN hM g _ (fun rr u' g' => ej_next HJ hk g')
  · exact ej_mrest hN hM g _ (fun rr u' g' => ej_next HJ hk g')
  · exact ej_mwork hN g _ _ (fun rr u' g' => ej_next HJ hk g')
  · exact ej_mpass hN0 hN hM g (fun rr u' g' => ej_next HJ hk g')
  · refine ej_msettle hN0 hN hM hh ht hr hJ hq (fun rr u' g' e0 e3 => ?_)
    obtain ⟨h, t, r, tk, ac, sn, wd, nd, ns, st, se, re, rfl, hh, ht, hr, hJ, hq⟩ := g'
    have hn := nm_r (P := fun y => J sd x7 x8 (nI kk) x10 x11 x12 x13 y (nI N) (nI M) sd (et_an t r) (nI h) tk ac sn wd nd ns st se re) (nI_1 i) (HJ _ _ _ _ _ _ _ _ _ _ _ _ _ _ _ _ _ _ _ _ hk hh ht hr hJ hq)
    exact br_c (fun z => br_c (fun _ => hn) (fun y => br_t (e3 (h17.mp z) y) hn)) (fun z => br_t (e0 (fun y => z (h17.mpr y))) hn)
/-- the choice of the call, from its end backwards: H holds for every call -/
theorem ej_737 {x3 x4 x6 x7 x8 x9 x11 x12 x13 x14 x15 x17 x27 : Int32} (H : ∀ x10 x26 x27 x28, wL_law_965 post L xs J x3 x4 x6 x7 x8 x9 x10 x11 x12 x13 x14 x15 x17 x26 x27 x28 kc ks (nI N) (nI M) sd an (nI h) tk ac sn wd nd ns st se re) (x10 x23 x28 z0 : Int32) : wL_law_737 post L xs J x3 x4 x6 x7 x8 x9 x10 x11 x12 x13 x14 x15 x17 x23 x27 x28 z0 kc ks (nI N) (nI M) sd an (nI h) tk ac sn wd nd ns st se re := by
  unfold wL_law_737
  refine nm_e (br_c (fun _ => H _ _ _ _) (fun _ => br_c (fun _ => H _ _ _ _) (fun _ => br_c (fun _ => H _ _ _ _) (fun _ => br_c (fun _ => br_c (fun _ => H _ _ _ _) (fun _ => H _ _ _ _)) (fun _ => H _ _ _ _)))))
theorem ej_n2 {n : Nat} (h : n ≤ 32) : ¬ nI n + 2 = 0 := by
  have e : nI n + 2 = nI (n + 2) := nI_add n 2
  rw [e]; exact nI_ne0 (by omega) (by omega)
theorem ej_701 (hN : N ≤ 8) (hM : M ≤ 32) {x6 x7 x8 x9 x11 x12 x13 x14 x15 x17 : Int32} (H : ∀ x10 x26 x27 x28, wL_law_965 post L xs J (nI N) (nI M) x6 x7 x8 x9 x10 x11 x12 x13 x14 x15 x17 x26 x27 x28 kc ks (nI N) (nI M) sd an (nI h) tk ac sn wd nd ns st se re) (x10 x22 x23 x24 x25 x26 x27 x28 z0 : Int32) : wL_law_701 post L xs J (nI N) (nI M) x6 x7 x8 x9 x10 x11 x12 x13 x14 x15 x17 x22 x23 x24 x25 x26 x27 x28 z0 kc ks (nI N) (nI M) sd an (nI h) tk ac sn wd nd ns st se re := by
  have hn2 : ¬ nI N + 2 = 0 := ej_n2 (by omega)
  have hm2 : ¬ nI M + 2 = 0 := ej_n2 hM
  unfold wL_law_701
  refine br_c (fun _ => H _ _ _ _) (fun _ => br_c (fun _ => br_c (fun _ => ej_737 H _ _ _ _) (fun _ => ej_737 H _ _ _ _)) (fun _ => br_c (fun _ => ?_) (fun _ => ⟨by decide, br_c (fun _ => ?_) (fun _ => ⟨by decide, br_c (fun _ => ?_) (fun _ => ?_)⟩)⟩)))
  · exact ⟨by decide, nm_e ⟨by decide, hn2, nm_e (br_c (fun _ => ⟨hm2, H _ _ _ _⟩) (fun _ => ⟨hn2, H _ _ _ _⟩))⟩⟩
  · exact br_c (fun _ => H _ _ _ _) (fun _ => H _ _ _ _)
  · exact br_c (fun _ => H _ _ _ _) (fun _ => H _ _ _ _)
  · have h9 : ∀ x29, wL_law_909 post L xs J (nI N) (nI M) x6 x7 x8 x9 x10 x11 x12 x13 x14 x15 x17 x23 x27 x28 x29 kc ks (nI N) (nI M) sd an (nI h) tk ac sn wd nd ns st se re := fun x29 => by
      unfold wL_law_909
      exact br_c (fun _ => H _ _ _ _) (fun _ => H _ _ _ _)
    have h3 : ∀ x29, wL_law_939 post L xs J (nI N) (nI M) x6 x7 x8 x9 x10 x11 x12 x13 x14 x15 x17 x23 x27 x28 x29 kc ks (nI N) (nI M) sd an (nI h) tk ac sn wd nd ns st se re := fun x29 => by
      unfold wL_law_939
      exact br_c (fun _ => H _ _ _ _) (fun _ => H _ _ _ _)
    exact br_c (fun _ => h9 _) (fun _ => br_c (fun _ => h9 _) (fun _ => br_c (fun _ => h3 _) (fun _ => br_c (fun _ => h3 _) (fun _ => br_c (fun _ => H _ _ _ _) (fun _ => H _ _ _ _)))))
theorem ej_598 (hN0 : 2 ≤ N) (hN : N ≤ 8) (hM0 : 8 ≤ M) (hM : M ≤ 32) {x6 x7 x8 x9 x10 x11 x12 x13 x14 x15 x16 x17 x22 x23 : Int32} (H : ∀ x10 x26 x27 x28, wL_law_965 post L xs J (nI N) (nI M) x6 x7 x8 x9 x10 x11 x12 x13 x14 x15 x17 x26 x27 x28 kc ks (nI N) (nI M) sd an (nI h) tk ac sn wd nd ns st se re) : ∀ d i (x24 x25 : Int32), i + d = M → wL_law_598 post L xs J (nI N) (nI M) x6 x7 x8 x9 x10 x11 x12 x13 x14 x15 x16 x17 x22 x23 kc ks (nI N) (nI M) sd an (nI h) tk ac sn wd nd ns st se re (d + 1) x24 x25 (nI i) := by
  have hn0 : ¬ nI N = 0 := nI_ne0 (by omega) (by omega)
  have hm0 : ¬ nI M = 0 := nI_ne0 (by omega) (by omega)
  intro d
  induction d with
  | zero =>
    intro i x24 x25 hi
    exact br_t (nI_le (by omega) (by omega)) ⟨hn0, nm_e (br_c (fun _ => ej_701 hN hM H _ _ _ _ _ _ _ _ _) (fun _ => br_c (fun _ => ej_701 hN hM H _ _ _ _ _ _ _ _ _) (fun _ => ej_701 hN hM H _ _ _ _ _ _ _ _ _)))⟩
  | succ d ih =>
    intro i x24 x25 hi
    have h6 : ∀ x24 x25 x27 x28, wL_law_645 post L xs J (wL_law_598 post L xs J (nI N) (nI M) x6 x7 x8 x9 x10 x11 x12 x13 x14 x15 x16 x17 x22 x23 kc ks (nI N) (nI M) sd an (nI h) tk ac sn wd nd ns st se re (d + 1)) (nI N) (nI M) x6 x7 x8 x9 x10 x11 x12 x13 x14 x15 x16 x17 x22 x23 x24 x25 (nI i) x27 x28 kc ks (nI N) (nI M) sd an (nI h) tk ac sn wd nd ns st se re := fun x24 x25 x27 x28 => by
      unfold wL_law_645
      exact br_c (fun _ => nm_r (nI_1 i) (ih _ _ _ (by omega))) (fun _ => br_c (fun _ => nm_r (nI_1 i) (ih _ _ _ (by omega))) (fun _ => br_c (fun _ => nm_r (nI_1 i) (ih _ _ _ (by omega))) (fun _ => nm_r (nI_1 i) (ih _ _ _ (by omega)))))
    exact br_f (nI_ge (by omega) (by omega)) ⟨hm0, nm_e (ej_rnote_any hM (fun c => ⟨by decide, nm_e (br_c (fun _ => h6 _ _ _ _) (fun _ => br_c (fun _ => h6 _ _ _ _) (fun _ => h6 _ _ _ _)))⟩))⟩
theorem ej_551 (hN0 : 2 ≤ N) (hN : N ≤ 8) (hM0 : 8 ≤ M) (hM : M ≤ 32) (ht : et_b t) (hr : et_b r) {x6 x7 x8 x9 x10 x11 x12 x13 x14 x15 x16 x17 x22 x24 x25 : Int32} (H : ∀ x10 x26 x27 x28, wL_law_965 post L xs J (nI N) (nI M) x6 x7 x8 x9 x10 x11 x12 x13 x14 x15 x17 x26 x27 x28 kc ks (nI N) (nI M) sd (et_an t r) (nI h) tk ac sn wd nd ns st se re) : ∀ d i (x23 : Int32), i + d = N → wL_law_551 post L xs J (nI N) (nI M) x6 x7 x8 x9 x10 x11 x12 x13 x14 x15 x16 x17 x22 x24 x25 kc ks (nI N) (nI M) sd (et_an t r) (nI h) tk ac sn wd nd ns st se re (d + 1) x23 (nI i) := by
  have hn0 : ¬ nI N = 0 := nI_ne0 (by omega) (by omega)
  intro d
  induction d with
  | zero =>
    intro i x23 hi
    exact br_t (nI_le (by omega) (by omega)) ⟨M + 1, ej_598 hN0 hN hM0 hM H M 0 _ _ (by omega)⟩
  | succ d ih =>
    intro i x23 hi
    exact br_f (nI_ge (by omega) (by omega)) ⟨hn0, nm_e (br_c (fun _ => nm_r (nI_1 i) (ih _ _ (by omega))) (fun _ => ej_rstate_any hN hM ht hr (fun c => br_c (fun _ => nm_r (nI_1 i) (ih _ _ (by omega))) (fun _ => nm_r (nI_1 i) (ih _ _ (by omega))))))⟩
theorem ej_cell {post : Int32 → Prop} {x : Int32} (hL : L ≤ 260) (j : Nat) (hj : j ≤ L + 4) (e : x = nI j) (hp : ∀ c, post c) : wpL_cell post L xs () x := by
  subst e
  refine br_c (fun _ => hp _) (fun z => ⟨vp_in_nI ?_ (by omega), hp _⟩)
  rcases Nat.lt_or_ge j L with y | y
  · exact y
  · exact absurd (nI_le y (by omega)) z
/-- the next operation is read -/
theorem ej_421 (hL : L ≤ 260) (hN0 : 2 ≤ N) (hN : N ≤ 8) (hM0 : 8 ≤ M) (hM : M ≤ 32) (ht : et_b t) (hr : et_b r) (hp1 : post 1) {x6 x7 x14 x15 x16 x17 : Int32} (H : ∀ (x8 x10 x11 x12 x13 x26 x27 x28 : Int32) (kk : Nat), kk ≤ L + 2 → wL_law_965 post L xs J (nI N) (nI M) x6 x7 x8 (nI kk) x10 x11 x12 x13 x14 x15 x17 x26 x27 x28 kc ks (nI N) (nI M) sd (et_an t r) (nI h) tk ac sn wd nd ns st se re) (hk : kk ≤ L + 2) (x8 x10 x11 x12 x13 : Int32) : wL_law_421 post L xs J (nI N) (nI M) x6 x7 x8 (nI kk) x10 x11 x12 x13 x14 x15 x16 x17 kc ks (nI N) (nI M) sd (et_an t r) (nI h) tk ac sn wd nd ns st se re := by
  have h5 : ∀ (kk : Nat) (x8 x10 x11 x12 x13 x22 : Int32), kk ≤ L + 2 → wL_law_539 post L xs J (nI N) (nI M) x6 x7 x8 (nI kk) x10 x11 x12 x13 x14 x15 x16 x17 x22 kc ks (nI N) (nI M) sd (et_an t r) (nI h) tk ac sn wd nd ns st se re := fun kk x8 x10 x11 x12 x13 x22 hk =>
    ⟨N + 1, ej_551 hN0 hN hM0 hM ht hr (fun a b c d => H _ _ _ _ _ _ _ _ _ hk) N 0 _ (by omega)⟩
  unfold wL_law_421
  refine br_c (fun _ => br_c (fun _ => br_c (fun _ => ?_) (fun _ => hp1)) (fun z => ?_)) (fun _ => h5 _ _ _ _ _ _ _ hk)
  · exact ej_cell hL 0 (by omega) rfl (fun c => nm_e (ej_cell hL 1 (by omega) rfl (fun c => nm_e (h5 _ _ _ _ _ _ _ hk))))
  · have hkL : kk < L := by
      rcases Nat.lt_or_ge kk L with y | y
      · exact y
      · exact absurd (nI_le y (by omega)) z
    refine ej_cell hL kk (by omega) rfl (fun c => ⟨by decide, nm_e (ej_cell hL (kk + 1) (by omega) (nI_1 kk) (fun c => nm_e (ej_cell hL (kk + 2) (by omega) (nI_add kk 2) (fun c => nm_e (nm_r (nI_add kk 3) ?_)))))⟩)
    exact br_c (fun _ => h5 _ _ _ _ _ _ _ (by omega)) (fun _ => h5 _ _ _ _ _ _ _ (by omega))
end ELA
