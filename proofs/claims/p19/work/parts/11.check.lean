section EKA
variable {N M h L i : Nat} {sd an t r tk : Int32} {ac sn wd nd ns st se re xs : Nat → Int32} {post : Int32 → Prop} {J : Int32 → Int32 → Int32 → Int32 → Int32 → Int32 → Int32 → Int32 → Int32 → Int32 → Int32 → Int32 → Int32 → Int32 → Int32 → (Nat → Int32) → (Nat → Int32) → (Nat → Int32) → (Nat → Int32) → (Nat → Int32) → (Nat → Int32) → (Nat → Int32) → (Nat → Int32) → Prop} {kc ks : Nat} {x6 x7 x8 x9 x10 x11 x12 x13 x14 x15 x16 x17 x18 x19 x20 x21 : Int32}
/-- RING: both sums -/
theorem ej_390 (hN : N ≤ 8) (ht : et_b t) (hr : et_b r) (hJ : ej_J N M sd t r ac st se re nd ns) (e20 : x20 = et_sm nd N) (e21 : x21 = et_sm ns N) (H : wL_law_421 post L xs J (nI N) (nI M) x6 x7 x8 x9 x10 x11 x12 x13 x14 x15 (et_an t r) x17 kc ks (nI N) (nI M) sd (et_an t r) (nI h) tk ac sn wd nd ns st se re) : wL_law_390 post L xs J (nI N) (nI M) x6 x7 x8 x9 x10 x11 x12 x13 x14 x15 (et_an t r) x17 x20 x21 kc ks (nI N) (nI M) sd (et_an t r) (nI h) tk ac sn wd nd ns st se re := by
  unfold wL_law_390
  refine br_c (fun _ => H) (fun z => ?_)
  have hr0 : r ≠ 0 := fun y => z ((et_an2 ht hr).mpr y)
  have hq := hJ.1.2.2.2.2.1 hr0
  have e : et_sm nd N = x21 := by
    rw [e21, hJ.1.2.2.2.2.2.2, ej_fly_0 M hq.2]
    exact (Int32.add_zero _).symm
  exact ej_rres2 hN ht hr hr0 (br_t e20.symm (ej_rres2 hN ht hr hr0 (br_t e H)))
/-- the way up the tree from a process a -/
theorem ej_336 (hN0 : 2 ≤ N) (hN : N ≤ 8) (hM : M ≤ 32) (hK : ej_K N M sd t r ac st se re nd ns (fun _ => False)) {ts : Nat → Nat} (hts : ∀ j, j < M → st j = 2 → ∀ a b, a < N → b < N → a ≠ 0 → se j = nI a → re j = nI b → ts a < ts b) {J3 : Int32 → Prop} {p : Nat} (HK : J3 (nI (p + 1))) : ∀ d i a, i + d = N - 1 → a < N → (a ≠ 0 → (∃ j, j < M ∧ st j = 2 ∧ re j = nI a) ∧ ej_lt ts (ts a) N + 1 ≤ d) → wL_law_336 post L xs J J3 (nI N) (nI M) x6 x7 x8 x9 x10 x11 x12 x13 x14 x15 x16 x17 x20 x21 (nI p) kc ks (nI N) (nI M) sd an (nI h) tk ac sn wd nd ns st se re (d + 1) (nI a) (nI i) := by
  have eN : nI N - 1 = nI (N - 1) := by
    obtain ⟨m, rfl⟩ : ∃ m, N = m + 1 := ⟨N - 1, by omega⟩
    exact nI_pred m
  have h0 : wL_law_377 post L xs J J3 (nI N) (nI M) x6 x7 x8 x9 x10 x11 x12 x13 x14 x15 x16 x17 x20 x21 (nI p) (nI 0) kc ks (nI N) (nI M) sd an (nI h) tk ac sn wd nd ns st se re := by
    unfold wL_law_377
    exact br_t nI_0 (nm_r (nI_1 p) HK)
  intro d
  induction d with
  | zero =>
    intro i a hi ha hx
    have a0 : a = 0 := by
      rcases Nat.eq_zero_or_pos a with z | z
      · exact z
      · have := (hx (by omega)).2; omega
    subst a0
    refine br_t ?_ h0
    rw [eN]; exact nI_le (by omega) (by omega)
  | succ d ih =>
    intro i a hi ha hx
    have hle : ¬ nI N - 1 ≤ nI i := by rw [eN]; exact nI_ge (by omega) (by omega)
    refine br_f hle ?_
    by_cases a0 : a = 0
    · subst a0; exact br_t nI_0 h0
    · obtain ⟨⟨j, hj, j2, jr⟩, hd⟩ := hx a0
      refine br_f (nI_ne0 (Nat.pos_of_ne_zero a0) (by omega)) ?_
      rcases et_first (fun j => st j = 2 ∧ re j = nI a) M with g0 | ⟨s, hs, ⟨g2, gr⟩, gn⟩
      · exact absurd ⟨j2, jr⟩ (g0 j hj)
      · have s0 : st s ≠ 0 := by rw [g2]; exact et_n20
        obtain ⟨⟨b, hb, eb⟩, -⟩ := hK.1.2.1 s hs s0
        refine ej_rpar hM hs g2 gr gn ?_
        rw [eb]
        refine ej_rdef hN hM hb (br_t ?_ (nm_r (nI_1 i) (ih (i + 1) b (by omega) hb (fun b0 => ⟨?_, ?_⟩))))
        · have := ej_cnp s0 eb M hs
          exact nI_le (a := 1) (by omega) (by have := et_cn_le st se (nI b) M; omega)
        · rcases hK.2.1 s hs s0 b hb eb with z | z
          · exact absurd z.1 b0
          · exact z.2
        · have := ej_lt_strict ts b0 (Nat.le_refl (ts b)) (hts s hs g2 b a hb ha b0 eb gr) N hb
          omega
theorem ej_313 (hN0 : 2 ≤ N) (hN : N ≤ 8) (hM : M ≤ 32) (ht : et_b t) (hr : et_b r) (hK : ej_K N M sd t r ac st se re nd ns (fun _ => False)) (H : wL_law_390 post L xs J (nI N) (nI M) x6 x7 x8 x9 x10 x11 x12 x13 x14 x15 x16 x17 x20 x21 kc ks (nI N) (nI M) sd (et_an t r) (nI h) tk ac sn wd nd ns st se re) : ∀ d i, 1 ≤ i → i + d = N → wL_law_313 post L xs J (nI N) (nI M) x6 x7 x8 x9 x10 x11 x12 x13 x14 x15 x16 x17 x20 x21 kc ks (nI N) (nI M) sd (et_an t r) (nI h) tk ac sn wd nd ns st se re (d + 1) (nI i) := by
  obtain ⟨ts, hts⟩ := hK.2.2.2.2.2.1
  intro d
  induction d with
  | zero => exact fun i h1 hi => br_t (nI_le (by omega) (by omega)) H
  | succ d ih =>
    intro i h1 hi
    have hn := ih (i + 1) (by omega) (by omega)
    obtain ⟨c, -, c0, hX⟩ := ej_rstate (h := h) (sd := sd) (tk := tk) (ac := ac) (sn := sn) (wd := wd) (nd := nd) (ns := ns) (st := st) (se := se) (re := re) hN hM ht hr (show i < N by omega)
    refine br_f (nI_ge (by omega) (by omega)) (hX _ (br_c (fun _ => nm_r (nI_1 i) hn) (fun z => ⟨N - 1 + 1, ?_⟩)))
    have he : et_eng M sd t st re i := by
      by_cases he : et_eng M sd t st re i
      · exact he
      · by_cases ha : ac i = 0
        · exact absurd (c0.mpr ⟨ha, he⟩) z
        · exact hK.2.2.1 i (by omega) ha
    refine ej_336 hN0 hN hM hK hts hn (N - 1) 0 i (by omega) (by omega) (fun i0 => ⟨?_, ?_⟩)
    · rcases he with y | y
      · exact absurd y.1 i0
      · exact y.2
    · have := ej_lt_bd ts i0 (Nat.le_refl (ts i)) N (by omega)
      omega
theorem ej_269 (hN0 : 2 ≤ N) (hN : N ≤ 8) (hM : M ≤ 32) (ht : et_b t) (hr : et_b r) (hK : ej_K N M sd t r ac st se re nd ns (fun _ => False)) (h18 : t ≠ 0 → x18 ≠ 0) (e19 : x19 = et_sm wd N) (H : wL_law_390 post L xs J (nI N) (nI M) sd x7 x8 x9 x10 x11 x12 x13 x14 x15 (et_an t r) x17 x20 x21 kc ks (nI N) (nI M) sd (et_an t r) (nI h) tk ac sn wd nd ns st se re) : wL_law_269 post L xs J (nI N) (nI M) sd x7 x8 x9 x10 x11 x12 x13 x14 x15 (et_an t r) x17 x18 x19 x20 x21 kc ks (nI N) (nI M) sd (et_an t r) (nI h) tk ac sn wd nd ns st se re := by
  unfold wL_law_269
  refine br_c (fun z => br_c (fun _ => H) (fun y => ?_)) (fun z => ?_)
  · have t0 : t = 0 := (et_an1 ht hr).mp z
    obtain ⟨c, -, c0, hX⟩ := ej_rstate (h := h) (sd := sd) (tk := tk) (ac := ac) (sn := sn) (wd := wd) (nd := nd) (ns := ns) (st := st) (se := se) (re := re) hN hM ht hr (show 0 < N by omega)
    refine hX _ (br_f ?_ ⟨N - 1 + 1, ej_313 hN0 hN hM ht hr hK H (N - 1) 1 (by omega) (by omega)⟩)
    exact fun w => (c0.mp w).2 (Or.inl ⟨rfl, y, t0⟩)
  · have t0 : t ≠ 0 := fun y => z ((et_an1 ht hr).mpr y)
    exact br_f (h18 t0) (ej_rres0 hN ht hr t0 (br_t e19.symm H))
/-- the slots are looked at -/
theorem ej_206 (hN : N ≤ 8) (hM : M ≤ 32) (hI : et_Inv N M sd t ac st se re) (ht : et_b t) (H : ∀ x17 x18 : Int32, (x17 = 0 ↔ ej_q N M ac st) → (t ≠ 0 → x18 ≠ 0) → ((x16 = 0 → wL_law_257 post L xs J (nI N) (nI M) x6 x7 x8 x9 x10 x11 x12 x13 x14 x15 x16 x17 x18 x19 x20 x21 kc ks (nI N) (nI M) sd an (nI h) tk ac sn wd nd ns st se re) ∧ (¬ x16 = 0 → wL_law_257 post L xs J (nI N) (nI M) x6 1 x8 x9 x10 x11 x12 x13 x14 x15 x16 x17 x18 x19 x20 x21 kc ks (nI N) (nI M) sd an (nI h) tk ac sn wd nd ns st se re))) : ∀ d i (x17 x18 : Int32), i + d = M → (x17 = 0 ↔ ((∀ p, p < N → ac p = 0) ∧ ∀ j, j < i → st j ≠ 1)) → (t ≠ 0 → x18 ≠ 0) → wL_law_206 post L xs J (nI N) (nI M) x6 x7 x8 x9 x10 x11 x12 x13 x14 x15 x16 x19 x20 x21 kc ks (nI N) (nI M) sd an (nI h) tk ac sn wd nd ns st se re (d + 1) x17 x18 (nI i) := by
  intro d
  induction d with
  | zero =>
    intro i x17 x18 hi h17 h18
    have e : i = M := by omega
    subst e
    exact br_t (nI_le (by omega) (by omega)) (H x17 x18 h17 h18)
  | succ d ih =>
    intro i x17 x18 hi h17 h18
    have hi' : i < M := by omega
    obtain ⟨c, c1, c0, hX⟩ := ej_rnote (h := h) (an := an) (tk := tk) (sn := sn) (wd := wd) (nd := nd) (ns := ns) hN hM hI hi'
    have hz : t ≠ 0 → c = 0 := by
      intro z
      rcases ht with y | y
      · exact absurd y z
      · exact c0 ((hI.2.2.2.2 (Or.inr y)).1 i hi')
    have h2 : ∀ x17 : Int32, (x17 = 0 ↔ ((∀ p, p < N → ac p = 0) ∧ ∀ j, j < i + 1 → st j ≠ 1)) → wL_law_230 post L xs J (wL_law_206 post L xs J (nI N) (nI M) x6 x7 x8 x9 x10 x11 x12 x13 x14 x15 x16 x19 x20 x21 kc ks (nI N) (nI M) sd an (nI h) tk ac sn wd nd ns st se re (d + 1)) (nI N) (nI M) x6 x7 x8 x9 x10 x11 x12 x13 x14 x15 x16 x17 x18 x19 x20 x21 (nI i) kc ks (nI N) (nI M) sd an (nI h) tk ac sn wd nd ns st se re := by
      intro x17 h17
      unfold wL_law_230
      exact hX _ (br_c (fun _ => nm_r (nI_1 i) (ih (i + 1) x17 x18 (by omega) h17 h18)) (fun w => nm_r (nI_1 i) (ih (i + 1) x17 0 (by omega) h17 (fun y => absurd (hz y) w))))
    refine br_f (nI_ge (by omega) (by omega)) (hX _ ⟨by decide, br_c (fun w => h2 1 ?_) (fun w => h2 x17 ?_)⟩)
    · exact ⟨fun y => absurd y et_n10, fun y => absurd (c1.mp w) (y.2 i (by omega))⟩
    · constructor
      · intro y
        refine ⟨(h17.mp y).1, fun j hj => ?_⟩
        by_cases e : j = i
        · subst e; exact fun v => w (c1.mpr v)
        · exact (h17.mp y).2 j (by omega)
      · exact fun y => h17.mpr ⟨y.1, fun j hj => y.2 j (by omega)⟩
/-- the processes are looked at -/
theorem ej_125 (hN : N ≤ 8) (hM : M ≤ 32) (hI : et_Inv N M sd t ac st se re) (ht : et_b t) (hr : et_b r) (H : ∀ x17 x18 : Int32, (x17 = 0 ↔ ∀ p, p < N → ac p = 0) → (t ≠ 0 → x18 ≠ 0) → ∃ n, wL_law_206 post L xs J (nI N) (nI M) x6 x7 x8 x9 x10 x11 x12 x13 x14 x15 x16 (et_sm wd N) (et_sm nd N) (et_sm ns N) kc ks (nI N) (nI M) sd (et_an t r) (nI h) tk ac sn wd nd ns st se re n x17 x18 0) : ∀ d i (x17 x18 : Int32), i + d = N → (x17 = 0 ↔ ∀ p, p < i → ac p = 0) → (t ≠ 0 → x18 ≠ 0) → wL_law_125 post L xs J (nI N) (nI M) x6 x7 x8 x9 x10 x11 x12 x13 x14 x15 x16 kc ks (nI N) (nI M) sd (et_an t r) (nI h) tk ac sn wd nd ns st se re (d + 1) x17 x18 (et_sm wd i) (et_sm nd i) (et_sm ns i) (nI i) := by
  intro d
  induction d with
  | zero =>
    intro i x17 x18 hi h17 h18
    have e : i = N := by omega
    subst e
    exact br_t (nI_le (by omega) (by omega)) (H x17 x18 h17 h18)
  | succ d ih =>
    intro i x17 x18 hi h17 h18
    have hi' : i < N := by omega
    obtain ⟨c, c2, c0, hX⟩ := ej_rstate (h := h) (sd := sd) (tk := tk) (ac := ac) (sn := sn) (wd := wd) (nd := nd) (ns := ns) (st := st) (se := se) (re := re) hN hM ht hr hi'
    have hz : t ≠ 0 → c = 0 := by
      intro z
      have y : t = 1 := et_bn ht z
      obtain ⟨hF, hA⟩ := hI.2.2.2.2 (Or.inr y)
      refine c0.mpr ⟨hA i hi', fun w => ?_⟩
      rcases w with w | ⟨-, j, hj, w, -⟩
      · exact z w.2.2
      · exact absurd ((hF j hj).symm.trans w) et_n02
    have h5 : ∀ x17 x18 : Int32, (x17 = 0 ↔ ∀ p, p < i + 1 → ac p = 0) → (t ≠ 0 → x18 ≠ 0) → wL_law_158 post L xs J (wL_law_125 post L xs J (nI N) (nI M) x6 x7 x8 x9 x10 x11 x12 x13 x14 x15 x16 kc ks (nI N) (nI M) sd (et_an t r) (nI h) tk ac sn wd nd ns st se re (d + 1)) (nI N) (nI M) x6 x7 x8 x9 x10 x11 x12 x13 x14 x15 x16 x17 x18 (et_sm wd i) (et_sm nd i) (et_sm ns i) (nI i) kc ks (nI N) (nI M) sd (et_an t r) (nI h) tk ac sn wd nd ns st se re := by
      intro x17 x18 h17 h18
      unfold wL_law_158
      exact ej_rt0 hN hi' (nm_e (ej_rt1 hN hi' (nm_e (ej_rt2 hN hi' (nm_e (nm_r (nI_1 i) (ih (i + 1) x17 x18 (by omega) h17 h18)))))))
    have h4 : ∀ x17 : Int32, (x17 = 0 ↔ ∀ p, p < i + 1 → ac p = 0) → wL_law_145 post L xs J (wL_law_125 post L xs J (nI N) (nI M) x6 x7 x8 x9 x10 x11 x12 x13 x14 x15 x16 kc ks (nI N) (nI M) sd (et_an t r) (nI h) tk ac sn wd nd ns st se re (d + 1)) (nI N) (nI M) x6 x7 x8 x9 x10 x11 x12 x13 x14 x15 x16 x17 x18 (et_sm wd i) (et_sm nd i) (et_sm ns i) (nI i) kc ks (nI N) (nI M) sd (et_an t r) (nI h) tk ac sn wd nd ns st se re := by
      intro x17 h17
      unfold wL_law_145
      exact hX _ (br_c (fun _ => h5 x17 x18 h17 h18) (fun w => h5 x17 0 h17 (fun y => absurd (hz y) w)))
    refine br_f (nI_ge (by omega) (by omega)) (hX _ (br_c (fun w => h4 1 ?_) (fun w => h4 x17 ?_)))
    · exact ⟨fun y => absurd y et_n10, fun y => absurd (y i (by omega)) (c2.mp w)⟩
    · constructor
      · intro y p hp
        by_cases e : p = i
        · subst e; exact Decidable.not_not.mp (fun v => w (c2.mpr v))
        · exact h17.mp y p (by omega)
      · exact fun y => h17.mpr (fun p hp => y p (by omega))
end EKA
