section
-- own small rows
theorem et_vb0 : vp_nar .boolean 0 = 0 := by decide
theorem et_vb1 : vp_nar .boolean 1 = 1 := by decide
theorem et_nb {z : Int32} (h : z = 0 ∨ z = 1) : narrow .boolean (.int z) = .int z := by rcases h with rfl | rfl <;> rfl
theorem et_first (P : Nat → Prop) : ∀ M : Nat, (∀ j, j < M → ¬ P j) ∨ ∃ j, j < M ∧ P j ∧ ∀ i, i < j → ¬ P i := by
  intro M
  induction M with
  | zero => exact Or.inl (fun j hj => absurd hj (Nat.not_lt_zero j))
  | succ M ih =>
    rcases ih with h | ⟨j, hj, hp, hn⟩
    · by_cases hp : P M
      · exact Or.inr ⟨M, Nat.lt_succ_self M, hp, h⟩
      · refine Or.inl (fun j hj => ?_)
        by_cases e : j = M
        · rw [e]; exact hp
        · exact h j (by omega)
    · exact Or.inr ⟨j, by omega, hp, hn⟩
theorem et_0n : nI 0 = 0 := nI_0
theorem et_1n : nI 1 = 1 := by decide
theorem et_n12 : (1 : Int32) ≠ 2 := by decide
theorem et_n10 : (1 : Int32) ≠ 0 := by decide
theorem et_n20 : (2 : Int32) ≠ 0 := by decide
theorem et_n30 : (3 : Int32) ≠ 0 := by decide
theorem et_n32 : (3 : Int32) ≠ 2 := by decide
theorem et_n02 : (0 : Int32) ≠ 2 := by decide
theorem et_m1 {n : Nat} (h : n < 2 ^ 31) : nI n ≠ -1 := by
  intro e
  have := nI_pos h
  rw [e] at this
  exact this (by decide)
end
section
section ETP
def et_Inv (N M : Nat) (sd t : Int32) (ac st se re : Nat → Int32) : Prop :=
  (∀ j, j < M → st j = 0 ∨ st j = 1 ∨ st j = 2 ∨ st j = 3) ∧
  (∀ j, j < M → st j ≠ 0 → (∃ a, a < N ∧ se j = nI a) ∧ (∃ b, b < N ∧ re j = nI b)) ∧
  (∀ j, j < M → st j = 2 → re j ≠ 0) ∧
  (∀ i j, i < M → j < M → st i = 2 → st j = 2 → re i = re j → i = j) ∧
  ((sd = 0 ∨ t = 1) → (∀ j, j < M → st j = 0) ∧ (∀ p, p < N → ac p = 0))
variable {N M : Nat} {sd t : Int32} {ac st se re : Nat → Int32}
theorem et_inv0 (se re : Nat → Int32) : et_Inv N M sd t (fun _ => 0) (fun _ => 0) se re :=
  ⟨fun _ _ => Or.inl rfl, fun _ _ h => absurd rfl h, fun _ _ h => absurd h et_n02, fun _ _ _ _ h => absurd h et_n02, fun _ => ⟨fun _ _ => rfl, fun _ _ => rfl⟩⟩
/-- a work note set off into slot s -/
theorem et_send (I : et_Inv N M sd t ac st se re) {a b s : Nat} (ha : a < N) (hb : b < N) (hac : ac a ≠ 0) : et_Inv N M sd t ac (upd st s 1) (upd se s (nI a)) (upd re s (nI b)) := by
  obtain ⟨h1, h2, h3, h4, h5⟩ := I
  refine ⟨?_, ?_, ?_, ?_, ?_⟩
  · intro j hj
    by_cases e : j = s
    · subst e; rw [pk_us]; exact Or.inr (Or.inl rfl)
    · rw [pk_un e]; exact h1 j hj
  · intro j hj
    by_cases e : j = s
    · subst e; rw [pk_us, pk_us, pk_us]; exact fun _ => ⟨⟨a, ha, rfl⟩, ⟨b, hb, rfl⟩⟩
    · rw [pk_un e, pk_un e, pk_un e]; exact h2 j hj
  · intro j hj
    by_cases e : j = s
    · subst e; rw [pk_us]; exact fun z => absurd z et_n12
    · rw [pk_un e, pk_un e]; exact h3 j hj
  · intro i j hi hj zi zj zr
    by_cases e : i = s
    · subst e; rw [pk_us] at zi; exact absurd zi et_n12
    · by_cases e' : j = s
      · subst e'; rw [pk_us] at zj; exact absurd zj et_n12
      · rw [pk_un e] at zi; rw [pk_un e'] at zj; rw [pk_un e, pk_un e'] at zr; exact h4 i j hi hj zi zj zr
  · intro z
    exact absurd ((h5 z).2 a ha) hac
/-- a stage c written into a slot that isn't FREE, where c isn't HELD, or no other slot is HELD for that receiver -/
theorem et_put (I : et_Inv N M sd t ac st se re) {s : Nat} {c : Int32} (hs : s < M) (e1 : st s ≠ 0) (hc : c = 0 ∨ c = 3 ∨ (c = 2 ∧ re s ≠ 0 ∧ ∀ j, j < M → st j = 2 → re j ≠ re s)) : et_Inv N M sd t ac (upd st s c) se re := by
  obtain ⟨h1, h2, h3, h4, h5⟩ := I
  have h2s := h2 s hs e1
  refine ⟨?_, ?_, ?_, ?_, ?_⟩
  · intro j hj
    by_cases e : j = s
    · subst e; rw [pk_us]
      rcases hc with h | h | h
      · exact Or.inl h
      · exact Or.inr (Or.inr (Or.inr h))
      · exact Or.inr (Or.inr (Or.inl h.1))
    · rw [pk_un e]; exact h1 j hj
  · intro j hj
    by_cases e : j = s
    · subst e; exact fun _ => h2s
    · rw [pk_un e]; exact h2 j hj
  · intro j hj
    by_cases e : j = s
    · subst e; rw [pk_us]
      rcases hc with h | h | h
      · exact fun z => absurd (h.symm.trans z) et_n02
      · exact fun z => absurd (h.symm.trans z) et_n32
      · exact fun _ => h.2.1
    · rw [pk_un e]; exact h3 j hj
  · intro i j hi hj zi zj zr
    by_cases e : i = s
    · by_cases e' : j = s
      · rw [e, e']
      · subst e; rw [pk_us] at zi; rw [pk_un e'] at zj
        rcases hc with h | h | h
        · exact absurd (h.symm.trans zi) et_n02
        · exact absurd (h.symm.trans zi) et_n32
        · exact absurd zr.symm (h.2.2 j hj zj)
    · by_cases e' : j = s
      · subst e'; rw [pk_us] at zj; rw [pk_un e] at zi
        rcases hc with h | h | h
        · exact absurd (h.symm.trans zj) et_n02
        · exact absurd (h.symm.trans zj) et_n32
        · exact absurd zr (h.2.2 i hi zi)
      · rw [pk_un e] at zi; rw [pk_un e'] at zj; exact h4 i j hi hj zi zj zr
  · intro z
    exact absurd ((h5 z).1 s hs) e1
/-- a process becomes active while some slot isn't FREE -/
theorem et_wake (I : et_Inv N M sd t ac st se re) {s : Nat} (hs : s < M) (e1 : st s ≠ 0) (ac' : Nat → Int32) : et_Inv N M sd t ac' st se re :=
  ⟨I.1, I.2.1, I.2.2.1, I.2.2.2.1, fun z => absurd ((I.2.2.2.2 z).1 s hs) e1⟩
theorem et_rest (I : et_Inv N M sd t ac st se re) (q : Nat) : et_Inv N M sd t (upd ac q 0) st se re :=
  ⟨I.1, I.2.1, I.2.2.1, I.2.2.2.1, fun z => ⟨(I.2.2.2.2 z).1, fun p hp => by
    by_cases e : p = q
    · subst e; exact pk_us
    · rw [pk_un e]; exact (I.2.2.2.2 z).2 p hp⟩⟩
theorem et_tree (I : et_Inv N M sd t ac st se re) (hF : ∀ j, j < M → st j = 0) (hA : ∀ p, p < N → ac p = 0) (t' : Int32) : et_Inv N M sd t' ac st se re :=
  ⟨I.1, I.2.1, I.2.2.1, I.2.2.2.1, fun _ => ⟨hF, hA⟩⟩
theorem et_start (I : et_Inv N M sd t ac st se re) (ac' : Nat → Int32) : et_Inv N M 1 0 ac' st se re :=
  ⟨I.1, I.2.1, I.2.2.1, I.2.2.2.1, fun y => by rcases y with y | y <;> exact absurd y (by decide)⟩
/-- the deficit: slots below k that aren't FREE and whose sender is p -/
def et_cn (st se : Nat → Int32) (p : Int32) : Nat → Nat
  | 0 => 0
  | k + 1 => if st k ≠ 0 ∧ se k = p then et_cn st se p k + 1 else et_cn st se p k
theorem et_cn_le (st se : Nat → Int32) (p : Int32) : ∀ k, et_cn st se p k ≤ k := by
  intro k
  induction k with
  | zero => exact Nat.le_refl 0
  | succ k ih =>
    show (if st k ≠ 0 ∧ se k = p then et_cn st se p k + 1 else et_cn st se p k) ≤ k + 1
    split <;> omega
theorem et_cn_t {st se : Nat → Int32} {p : Int32} {k : Nat} (h : st k ≠ 0) (h' : se k = p) : et_cn st se p (k + 1) = et_cn st se p k + 1 := if_pos ⟨h, h'⟩
theorem et_cn_f {st se : Nat → Int32} {p : Int32} {k : Nat} (h : ¬ (st k ≠ 0 ∧ se k = p)) : et_cn st se p (k + 1) = et_cn st se p k := if_neg h
end ETP
section ETQ
/-- the announced bits -/
def et_an (t r : Int32) : Int32 := t + 2 * r
def et_b (t : Int32) : Prop := t = 0 ∨ t = 1
variable {t r : Int32}
theorem et_an1 (ht : et_b t) (hr : et_b r) : (et_an t r &&& 1) = 0 ↔ t = 0 := by rcases ht with rfl | rfl <;> rcases hr with rfl | rfl <;> decide
theorem et_an2 (ht : et_b t) (hr : et_b r) : (et_an t r &&& 2) = 0 ↔ r = 0 := by rcases ht with rfl | rfl <;> rcases hr with rfl | rfl <;> decide
theorem et_or1 (ht : et_b t) (hr : et_b r) : (et_an t r ||| 1) = et_an 1 r := by rcases ht with rfl | rfl <;> rcases hr with rfl | rfl <;> decide
theorem et_or2 (ht : et_b t) (hr : et_b r) : (et_an t r ||| 2) = et_an t 1 := by rcases ht with rfl | rfl <;> rcases hr with rfl | rfl <;> decide
theorem et_an3 (ht : et_b t) (hr : et_b r) : et_an t r = 3 ↔ (t ≠ 0 ∧ r ≠ 0) := by rcases ht with rfl | rfl <;> rcases hr with rfl | rfl <;> decide
theorem et_b0 : et_b 0 := Or.inl rfl
theorem et_b1 : et_b 1 := Or.inr rfl
theorem et_bn (h : et_b t) (h0 : t ≠ 0) : t = 1 := by rcases h with h | h; exact absurd h h0; exact h
/-- sums, masks, cleared arrays -/
def et_sm (f : Nat → Int32) : Nat → Int32
  | 0 => 0
  | n + 1 => et_sm f n + f n
theorem et_sm_c {f g : Nat → Int32} : ∀ n, (∀ p, p < n → f p = g p) → et_sm f n = et_sm g n := by
  intro n
  induction n with
  | zero => exact fun _ => rfl
  | succ n ih =>
    intro h
    show et_sm f n + f n = et_sm g n + g n
    rw [ih (fun p hp => h p (by omega)), h n (by omega)]
def et_mk (d : Nat → Int32) : Nat → Nat
  | 0 => 0
  | p + 1 => if p = 0 ∨ 0 < d p then et_mk d p + 2 ^ p else et_mk d p
theorem et_mk_lt (d : Nat → Int32) : ∀ p, et_mk d p < 2 ^ p := by
  intro p
  induction p with
  | zero => show (0 : Nat) < 2 ^ 0; decide
  | succ p ih =>
    show (if p = 0 ∨ 0 < d p then et_mk d p + 2 ^ p else et_mk d p) < 2 ^ (p + 1)
    have e : 2 ^ (p + 1) = 2 ^ p + 2 ^ p := by rw [Nat.pow_succ]; omega
    rw [e]
    split <;> omega
theorem et_mk_c {f g : Nat → Int32} : ∀ n, (∀ p, p < n → f p = g p) → et_mk f n = et_mk g n := by
  intro n
  induction n with
  | zero => exact fun _ => rfl
  | succ n ih =>
    intro h
    show (if n = 0 ∨ 0 < f n then et_mk f n + 2 ^ n else et_mk f n) = (if n = 0 ∨ 0 < g n then et_mk g n + 2 ^ n else et_mk g n)
    rw [ih (fun p hp => h p (by omega)), h n (by omega)]
theorem et_mk_t {d : Nat → Int32} {p : Nat} (h : p = 0 ∨ 0 < d p) : et_mk d (p + 1) = et_mk d p + 2 ^ p := if_pos h
theorem et_mk_f {d : Nat → Int32} {p : Nat} (h : ¬ (p = 0 ∨ 0 < d p)) : et_mk d (p + 1) = et_mk d p := if_neg h
theorem et_mk_1 (d : Nat → Int32) : et_mk d 1 = 1 := et_mk_t (Or.inl rfl)
theorem et_sh : ∀ p, p < 8 → (1 : Int32) <<< (nI p &&& 31) = nI (2 ^ p) := by decide +kernel
theorem et_ior : ∀ p, p < 8 → ∀ m, m < 2 ^ p → nI m ||| nI (2 ^ p) = nI (m + 2 ^ p) := by decide +kernel
def et_cl (f : Nat → Int32) : Nat → Nat → Int32
  | 0 => f
  | i + 1 => upd (et_cl f i) i 0
def et_ca (f : Nat → Int32) : Nat → Nat → Int32
  | 0 => f
  | i + 1 => upd (et_ca f i) i (if i = 0 then 1 else 0)
theorem et_cl_at (f : Nat → Int32) {p : Nat} : ∀ i, p < i → et_cl f i p = 0 := by
  intro i
  induction i with
  | zero => exact fun h => absurd h (Nat.not_lt_zero p)
  | succ i ih =>
    intro h
    show upd (et_cl f i) i 0 p = 0
    by_cases e : p = i
    · subst e; exact pk_us
    · rw [pk_un e]; exact ih (by omega)
theorem et_ca_at (f : Nat → Int32) {p : Nat} : ∀ i, p < i → et_ca f i p = if p = 0 then 1 else 0 := by
  intro i
  induction i with
  | zero => exact fun h => absurd h (Nat.not_lt_zero p)
  | succ i ih =>
    intro h
    show upd (et_ca f i) i (if i = 0 then 1 else 0) p = _
    by_cases e : p = i
    · subst e; exact pk_us
    · rw [pk_un e]; exact ih (by omega)
end ETQ
end
section
section ETX
variable {N M h : Nat} {sd an tk : Int32} {ac sn wd nd ns st se re : Nat → Int32} {post : Int32 → Prop}
theorem et_xP_t {j : Nat} (hN : N ≤ 8) (hj : j < N) (hp : post 1) : wpX_isProcess post (nI N, nI M, sd, an, nI h, tk, ac, sn, wd, nd, ns, st, se, re) (nI j) :=
  br_f (nI_pos (by omega)) (br_f (nI_ge hj (by omega)) hp)
theorem et_xP_f {x : Int32} (hx : x < 0 ∨ nI N ≤ x) (hp : post 0) : wpX_isProcess post (nI N, nI M, sd, an, nI h, tk, ac, sn, wd, nd, ns, st, se, re) x := by
  by_cases h0 : x < 0
  · exact br_t h0 hp
  · exact br_f h0 (br_t (hx.resolve_left h0) hp)
theorem et_xS_t {j : Nat} (hM : M ≤ 32) (hj : j < M) (hp : post 1) : wpX_isSlot post (nI N, nI M, sd, an, nI h, tk, ac, sn, wd, nd, ns, st, se, re) (nI j) :=
  br_f (nI_pos (by omega)) (br_f (nI_ge hj (by omega)) hp)
theorem et_xS_f {x : Int32} (hx : x < 0 ∨ nI M ≤ x) (hp : post 0) : wpX_isSlot post (nI N, nI M, sd, an, nI h, tk, ac, sn, wd, nd, ns, st, se, re) x := by
  by_cases h0 : x < 0
  · exact br_t h0 hp
  · exact br_f h0 (br_t (hx.resolve_left h0) hp)
theorem et_xA_t {b : Int32} (hb : (an &&& b) ≠ 0) (hp : post 1) : wpX_isAnnounced post (nI N, nI M, sd, an, nI h, tk, ac, sn, wd, nd, ns, st, se, re) b := br_f hb hp
theorem et_xA_f {b : Int32} (hb : (an &&& b) = 0) (hp : post 0) : wpX_isAnnounced post (nI N, nI M, sd, an, nI h, tk, ac, sn, wd, nd, ns, st, se, re) b := br_t hb hp
-- the lowest slot at a stage
theorem et_xlow_nl {c : Int32} (hM : M ≤ 32) (hp : post (-1)) : ∀ d i, i + d = M → (∀ j, i ≤ j → j < M → st j ≠ c) → wX_lowestSlotAt_2 post c (nI N) (nI M) sd an (nI h) tk ac sn wd nd ns st se re (d + 1) (nI i) := by
  intro d
  induction d with
  | zero => exact fun i hi _ => br_t (nI_le (by omega) (by omega)) hp
  | succ d ih =>
    intro i hi hn
    refine br_f (nI_ge (by omega) (by omega)) ⟨vp_in_nI (by omega) (by decide), br_f ?_ (nm_r (nI_1 i) (ih (i + 1) (by omega) (fun j hj => hn j (by omega))))⟩
    rw [nI_clamp (by omega)]; exact hn i (Nat.le_refl i) (by omega)
theorem et_xlow_n {c : Int32} (hM : M ≤ 32) (hn : ∀ j, j < M → st j ≠ c) (hp : post (-1)) : wpX_lowestSlotAt post (nI N, nI M, sd, an, nI h, tk, ac, sn, wd, nd, ns, st, se, re) c :=
  ⟨M + 1, et_xlow_nl hM hp M 0 (by omega) (fun j _ => hn j)⟩
theorem et_xlow_sl {c : Int32} {s : Nat} (hM : M ≤ 32) (hs : s < M) (hc : st s = c) (hp : post (nI s)) : ∀ d i, i + d = s → (∀ j, i ≤ j → j < s → st j ≠ c) → wX_lowestSlotAt_2 post c (nI N) (nI M) sd an (nI h) tk ac sn wd nd ns st se re (d + 1) (nI i) := by
  intro d
  induction d with
  | zero =>
    intro i hi _
    have e : i = s := by omega
    subst e
    exact br_f (nI_ge (by omega) (by omega)) ⟨vp_in_nI (by omega) (by decide), br_t (by rw [nI_clamp (by omega)]; exact hc) hp⟩
  | succ d ih =>
    intro i hi hn
    refine br_f (nI_ge (by omega) (by omega)) ⟨vp_in_nI (by omega) (by decide), br_f ?_ (nm_r (nI_1 i) (ih (i + 1) (by omega) (fun j hj => hn j (by omega))))⟩
    rw [nI_clamp (by omega)]; exact hn i (Nat.le_refl i) (by omega)
theorem et_xlow_s {c : Int32} {s : Nat} (hM : M ≤ 32) (hs : s < M) (hc : st s = c) (hn : ∀ j, j < s → st j ≠ c) (hp : post (nI s)) : wpX_lowestSlotAt post (nI N, nI M, sd, an, nI h, tk, ac, sn, wd, nd, ns, st, se, re) c :=
  ⟨s + 1, et_xlow_sl hM hs hc hp s 0 (by omega) (fun j _ => hn j)⟩
-- the HELD slot of a receiver
theorem et_xheld_nl {x : Int32} (hM : M ≤ 32) (hp : post (-1)) : ∀ d i, i + d = M → (∀ j, i ≤ j → j < M → ¬ (st j = 2 ∧ re j = x)) → wX_heldSlot_2 post x (nI N) (nI M) sd an (nI h) tk ac sn wd nd ns st se re (d + 1) (nI i) := by
  intro d
  induction d with
  | zero => exact fun i hi _ => br_t (nI_le (by omega) (by omega)) hp
  | succ d ih =>
    intro i hi hn
    have hr := nm_r (P := fun y => wX_heldSlot_2 post x (nI N) (nI M) sd an (nI h) tk ac sn wd nd ns st se re (d + 1) y) (nI_1 i) (ih (i + 1) (by omega) (fun j hj => hn j (by omega)))
    have hi' := hn i (Nat.le_refl i) (by omega)
    refine br_f (nI_ge (by omega) (by omega)) ⟨vp_in_nI (by omega) (by decide), br_c (fun z => ⟨vp_in_nI (by omega) (by decide), br_f ?_ hr⟩) (fun _ => hr)⟩
    rw [nI_clamp (by omega)] at z ⊢
    exact fun y => hi' ⟨z, y⟩
theorem et_xheld_n {x : Int32} (hM : M ≤ 32) (hn : ∀ j, j < M → ¬ (st j = 2 ∧ re j = x)) (hp : post (-1)) : wpX_heldSlot post (nI N, nI M, sd, an, nI h, tk, ac, sn, wd, nd, ns, st, se, re) x :=
  ⟨M + 1, et_xheld_nl hM hp M 0 (by omega) (fun j _ => hn j)⟩
theorem et_xheld_sl {x : Int32} {s : Nat} (hM : M ≤ 32) (hs : s < M) (h2 : st s = 2) (hx : re s = x) (hp : post (nI s)) : ∀ d i, i + d = s → (∀ j, i ≤ j → j < s → ¬ (st j = 2 ∧ re j = x)) → wX_heldSlot_2 post x (nI N) (nI M) sd an (nI h) tk ac sn wd nd ns st se re (d + 1) (nI i) := by
  intro d
  induction d with
  | zero =>
    intro i hi _
    have e : i = s := by omega
    subst e
    refine br_f (nI_ge (by omega) (by omega)) ⟨vp_in_nI (by omega) (by decide), br_t ?_ ⟨vp_in_nI (by omega) (by decide), br_t ?_ hp⟩⟩
    · rw [nI_clamp (by omega)]; exact h2
    · rw [nI_clamp (by omega)]; exact hx
  | succ d ih =>
    intro i hi hn
    have hr := nm_r (P := fun y => wX_heldSlot_2 post x (nI N) (nI M) sd an (nI h) tk ac sn wd nd ns st se re (d + 1) y) (nI_1 i) (ih (i + 1) (by omega) (fun j hj => hn j (by omega)))
    have hi' := hn i (Nat.le_refl i) (by omega)
    refine br_f (nI_ge (by omega) (by omega)) ⟨vp_in_nI (by omega) (by decide), br_c (fun z => ⟨vp_in_nI (by omega) (by decide), br_f ?_ hr⟩) (fun _ => hr)⟩
    rw [nI_clamp (by omega)] at z ⊢
    exact fun y => hi' ⟨z, y⟩
theorem et_xheld_s {x : Int32} {s : Nat} (hM : M ≤ 32) (hs : s < M) (h2 : st s = 2) (hx : re s = x) (hn : ∀ j, j < s → ¬ (st j = 2 ∧ re j = x)) (hp : post (nI s)) : wpX_heldSlot post (nI N, nI M, sd, an, nI h, tk, ac, sn, wd, nd, ns, st, se, re) x :=
  ⟨s + 1, et_xheld_sl hM hs h2 hx hp s 0 (by omega) (fun j _ => hn j)⟩
-- the deficit
theorem et_xun_l {x : Int32} (hM : M ≤ 32) (hp : post (nI (et_cn st se x M))) : ∀ d i, i + d = M → wX_unacknowledged_4 post x (nI N) (nI M) sd an (nI h) tk ac sn wd nd ns st se re (d + 1) (nI (et_cn st se x i)) (nI i) := by
  intro d
  induction d with
  | zero =>
    intro i hi
    have e : i = M := by omega
    subst e
    exact br_t (nI_le (by omega) (by omega)) hp
  | succ d ih =>
    intro i hi
    have hr := ih (i + 1) (by omega)
    have hc := nI_clamp (show i < 2 ^ 31 by omega)
    refine br_f (nI_ge (by omega) (by omega)) ⟨vp_in_nI (by omega) (by decide), br_c (fun z => ?_) (fun z => ⟨vp_in_nI (by omega) (by decide), br_c (fun y => ?_) (fun y => ?_)⟩)⟩
    · rw [hc] at z
      rw [et_cn_f (fun w => w.1 z)] at hr
      exact nm_r (nI_1 i) hr
    · rw [hc] at z y
      rw [et_cn_t z y] at hr
      exact nm_r (nI_1 _) (nm_r (nI_1 i) hr)
    · rw [hc] at z y
      rw [et_cn_f (fun w => y w.2)] at hr
      exact nm_r (nI_1 i) hr
theorem et_xun {x : Int32} (hM : M ≤ 32) (hp : post (nI (et_cn st se x M))) : wpX_unacknowledged post (nI N, nI M, sd, an, nI h, tk, ac, sn, wd, nd, ns, st, se, re) x :=
  ⟨M + 1, et_xun_l hM hp M 0 (by omega)⟩
-- is some process active, stained; is every slot FREE
theorem et_xact_nl (hN : N ≤ 8) (hp : post 0) : ∀ d i, i + d = N → (∀ j, i ≤ j → j < N → ac j = 0) → wX_anyActive_2 post (nI N) (nI M) sd an (nI h) tk ac sn wd nd ns st se re (d + 1) (nI i) := by
  intro d
  induction d with
  | zero => exact fun i hi _ => br_t (nI_le (by omega) (by omega)) hp
  | succ d ih =>
    intro i hi hn
    refine br_f (nI_ge (by omega) (by omega)) ⟨vp_in_nI (by omega) (by decide), br_t ?_ (nm_r (nI_1 i) (ih (i + 1) (by omega) (fun j hj => hn j (by omega))))⟩
    rw [nI_clamp (by omega)]; exact hn i (Nat.le_refl i) (by omega)
theorem et_xact_n (hN : N ≤ 8) (hn : ∀ j, j < N → ac j = 0) (hp : post 0) : wpX_anyActive post (nI N, nI M, sd, an, nI h, tk, ac, sn, wd, nd, ns, st, se, re) :=
  ⟨N + 1, et_xact_nl hN hp N 0 (by omega) (fun j _ => hn j)⟩
theorem et_xact_sl {s : Nat} (hN : N ≤ 8) (hs : s < N) (hc : ac s ≠ 0) (hp : post 1) : ∀ d i, i + d = s → wX_anyActive_2 post (nI N) (nI M) sd an (nI h) tk ac sn wd nd ns st se re (d + 1) (nI i) := by
  intro d
  induction d with
  | zero =>
    intro i hi
    have e : i = s := by omega
    subst e
    exact br_f (nI_ge (by omega) (by omega)) ⟨vp_in_nI (by omega) (by decide), br_f (by rw [nI_clamp (by omega)]; exact hc) hp⟩
  | succ d ih =>
    intro i hi
    exact br_f (nI_ge (by omega) (by omega)) ⟨vp_in_nI (by omega) (by decide), br_c (fun _ => nm_r (nI_1 i) (ih (i + 1) (by omega))) (fun _ => hp)⟩
theorem et_xact_s {s : Nat} (hN : N ≤ 8) (hs : s < N) (hc : ac s ≠ 0) (hp : post 1) : wpX_anyActive post (nI N, nI M, sd, an, nI h, tk, ac, sn, wd, nd, ns, st, se, re) :=
  ⟨s + 1, et_xact_sl hN hs hc hp s 0 (by omega)⟩
theorem et_xstn_nl (hN : N ≤ 8) (hp : post 0) : ∀ d i, i + d = N → (∀ j, i ≤ j → j < N → sn j = 0) → wX_anyStained_2 post (nI N) (nI M) sd an (nI h) tk ac sn wd nd ns st se re (d + 1) (nI i) := by
  intro d
  induction d with
  | zero => exact fun i hi _ => br_t (nI_le (by omega) (by omega)) hp
  | succ d ih =>
    intro i hi hn
    refine br_f (nI_ge (by omega) (by omega)) ⟨vp_in_nI (by omega) (by decide), br_t ?_ (nm_r (nI_1 i) (ih (i + 1) (by omega) (fun j hj => hn j (by omega))))⟩
    rw [nI_clamp (by omega)]; exact hn i (Nat.le_refl i) (by omega)
theorem et_xstn_n (hN : N ≤ 8) (hn : ∀ j, j < N → sn j = 0) (hp : post 0) : wpX_anyStained post (nI N, nI M, sd, an, nI h, tk, ac, sn, wd, nd, ns, st, se, re) :=
  ⟨N + 1, et_xstn_nl hN hp N 0 (by omega) (fun j _ => hn j)⟩
theorem et_xstn_sl {s : Nat} (hN : N ≤ 8) (hs : s < N) (hc : sn s ≠ 0) (hp : post 1) : ∀ d i, i + d = s → wX_anyStained_2 post (nI N) (nI M) sd an (nI h) tk ac sn wd nd ns st se re (d + 1) (nI i) := by
  intro d
  induction d with
  | zero =>
    intro i hi
    have e : i = s := by omega
    subst e
    exact br_f (nI_ge (by omega) (by omega)) ⟨vp_in_nI (by omega) (by decide), br_f (by rw [nI_clamp (by omega)]; exact hc) hp⟩
  | succ d ih =>
    intro i hi
    exact br_f (nI_ge (by omega) (by omega)) ⟨vp_in_nI (by omega) (by decide), br_c (fun _ => nm_r (nI_1 i) (ih (i + 1) (by omega))) (fun _ => hp)⟩
theorem et_xstn_s {s : Nat} (hN : N ≤ 8) (hs : s < N) (hc : sn s ≠ 0) (hp : post 1) : wpX_anyStained post (nI N, nI M, sd, an, nI h, tk, ac, sn, wd, nd, ns, st, se, re) :=
  ⟨s + 1, et_xstn_sl hN hs hc hp s 0 (by omega)⟩
theorem et_xfree_yl (hM : M ≤ 32) (hp : post 1) : ∀ d i, i + d = M → (∀ j, i ≤ j → j < M → st j = 0) → wX_everySlotFree_2 post (nI N) (nI M) sd an (nI h) tk ac sn wd nd ns st se re (d + 1) (nI i) := by
  intro d
  induction d with
  | zero => exact fun i hi _ => br_t (nI_le (by omega) (by omega)) hp
  | succ d ih =>
    intro i hi hn
    refine br_f (nI_ge (by omega) (by omega)) ⟨vp_in_nI (by omega) (by decide), br_t ?_ (nm_r (nI_1 i) (ih (i + 1) (by omega) (fun j hj => hn j (by omega))))⟩
    rw [nI_clamp (by omega)]; exact hn i (Nat.le_refl i) (by omega)
theorem et_xfree_y (hM : M ≤ 32) (hn : ∀ j, j < M → st j = 0) (hp : post 1) : wpX_everySlotFree post (nI N, nI M, sd, an, nI h, tk, ac, sn, wd, nd, ns, st, se, re) :=
  ⟨M + 1, et_xfree_yl hM hp M 0 (by omega) (fun j _ => hn j)⟩
theorem et_xfree_nl {s : Nat} (hM : M ≤ 32) (hs : s < M) (hc : st s ≠ 0) (hp : post 0) : ∀ d i, i + d = s → wX_everySlotFree_2 post (nI N) (nI M) sd an (nI h) tk ac sn wd nd ns st se re (d + 1) (nI i) := by
  intro d
  induction d with
  | zero =>
    intro i hi
    have e : i = s := by omega
    subst e
    exact br_f (nI_ge (by omega) (by omega)) ⟨vp_in_nI (by omega) (by decide), br_f (by rw [nI_clamp (by omega)]; exact hc) hp⟩
  | succ d ih =>
    intro i hi
    exact br_f (nI_ge (by omega) (by omega)) ⟨vp_in_nI (by omega) (by decide), br_c (fun _ => nm_r (nI_1 i) (ih (i + 1) (by omega))) (fun _ => hp)⟩
theorem et_xfree_n {s : Nat} (hM : M ≤ 32) (hs : s < M) (hc : st s ≠ 0) (hp : post 0) : wpX_everySlotFree post (nI N, nI M, sd, an, nI h, tk, ac, sn, wd, nd, ns, st, se, re) :=
  ⟨s + 1, et_xfree_nl hM hs hc hp s 0 (by omega)⟩
-- sums and the mask
theorem et_xsmW_l (hN : N ≤ 8) (hp : post (et_sm wd N)) : ∀ d i, i + d = N → wX_sumOverProcesses_2_4 post (nI N) (nI M) sd an (nI h) tk ac sn wd nd ns st se re (d + 1) (et_sm wd i) (nI i) := by
  intro d
  induction d with
  | zero =>
    intro i hi
    have e : i = N := by omega
    subst e
    exact br_t (nI_le (by omega) (by omega)) hp
  | succ d ih =>
    intro i hi
    exact br_f (nI_ge (by omega) (by omega)) ⟨vp_in_nI (by omega) (by decide), nm_r (by rw [nI_clamp (by omega)]; rfl) (nm_r (nI_1 i) (ih (i + 1) (by omega)))⟩
theorem et_xsmW (hN : N ≤ 8) (hp : post (et_sm wd N)) : wpX_sumOverProcesses_2 post (nI N, nI M, sd, an, nI h, tk, ac, sn, wd, nd, ns, st, se, re) :=
  ⟨N + 1, et_xsmW_l hN hp N 0 (by omega)⟩
theorem et_xsmD_l (hN : N ≤ 8) (hp : post (et_sm nd N)) : ∀ d i, i + d = N → wX_sumOverProcesses_4 post (nI N) (nI M) sd an (nI h) tk ac sn wd nd ns st se re (d + 1) (et_sm nd i) (nI i) := by
  intro d
  induction d with
  | zero =>
    intro i hi
    have e : i = N := by omega
    subst e
    exact br_t (nI_le (by omega) (by omega)) hp
  | succ d ih =>
    intro i hi
    exact br_f (nI_ge (by omega) (by omega)) ⟨vp_in_nI (by omega) (by decide), nm_r (by rw [nI_clamp (by omega)]; rfl) (nm_r (nI_1 i) (ih (i + 1) (by omega)))⟩
theorem et_xsmD (hN : N ≤ 8) (hp : post (et_sm nd N)) : wpX_sumOverProcesses post (nI N, nI M, sd, an, nI h, tk, ac, sn, wd, nd, ns, st, se, re) :=
  ⟨N + 1, et_xsmD_l hN hp N 0 (by omega)⟩
theorem et_xmk_l (hN : N ≤ 8) (hp : post (nI (et_mk nd N))) : ∀ d i, 1 ≤ i → i + d = N → wX_maskOfReached_4 post (nI N) (nI M) sd an (nI h) tk ac sn wd nd ns st se re (d + 1) (nI (et_mk nd i)) (nI i) := by
  intro d
  induction d with
  | zero =>
    intro i h1 hi
    have e : i = N := by omega
    subst e
    exact br_t (nI_le (by omega) (by omega)) hp
  | succ d ih =>
    intro i h1 hi
    have hr := ih (i + 1) (by omega) (by omega)
    have hc := nI_clamp (show i < 2 ^ 31 by omega)
    refine br_f (nI_ge (by omega) (by omega)) ⟨vp_in_nI (by omega) (by decide), br_c (fun z => ?_) (fun z => ?_)⟩
    · rw [hc] at z
      rw [et_mk_f (fun w => by
        rcases w with w | w
        · omega
        · exact absurd z (Int32.not_le.mpr w))] at hr
      exact nm_r (nI_1 i) hr
    · rw [hc] at z
      rw [et_mk_t (Or.inr (Int32.not_le.mp z))] at hr
      refine nm_r ?_ (nm_r (nI_1 i) hr)
      rw [et_sh i (by omega), et_ior i (by omega) _ (et_mk_lt nd i)]
theorem et_xmk (hN0 : 1 ≤ N) (hN : N ≤ 8) (hp : post (nI (et_mk nd N))) : wpX_maskOfReached post (nI N, nI M, sd, an, nI h, tk, ac, sn, wd, nd, ns, st, se, re) := by
  have := et_xmk_l (h := h) (sd := sd) (an := an) (tk := tk) (ac := ac) (sn := sn) (wd := wd) (ns := ns) (st := st) (se := se) (re := re) (M := M) hN hp (N - 1) 1 (by omega) (by omega)
  rw [et_mk_1] at this
  exact ⟨_, this⟩
end ETX
end
section
section ETH
/-- engaged -/
def et_eng (M : Nat) (sd t : Int32) (st re : Nat → Int32) (p : Nat) : Prop :=
  (p = 0 ∧ sd ≠ 0 ∧ t = 0) ∨ (p ≠ 0 ∧ ∃ j, j < M ∧ st j = 2 ∧ re j = nI p)
variable {N M h : Nat} {sd an tk t r : Int32} {ac sn wd nd ns st se re : Nat → Int32}
theorem et_xhome_y {post : St2 → Prop} {p s : Nat} (hN : N ≤ 8) (hM : M ≤ 32) (hpN : p < N) (hs : s < M) (h2 : st s = 2) (hr : re s = nI p) (hn : ∀ j, j < s → ¬ (st j = 2 ∧ re j = nI p)) (ha : ac p = 0) (hd : et_cn st se (nI p) M = 0) (hp : post (nI N, nI M, sd, an, nI h, tk, ac, sn, wd, nd, ns, upd st s 3, se, re)) : wpX_comeHome post (nI N, nI M, sd, an, nI h, tk, ac, sn, wd, nd, ns, st, se, re) (nI p) := by
  unfold wpX_comeHome
  refine et_xheld_s hM hs h2 hr hn (br_f (et_m1 (by omega)) ⟨vp_in_nI (by omega) (by decide), br_t ?_ (et_xun hM (br_t ?_ ⟨vp_in_nI (by omega) (by decide), nm_r (by rw [nI_clamp (by omega)]) hp⟩))⟩)
  · rw [nI_clamp (by omega)]; exact ha
  · rw [hd]; exact nI_0
theorem et_xhome_n {post : St2 → Prop} {p : Nat} (hN : N ≤ 8) (hM : M ≤ 32) (hpN : p < N) (hx : (∀ j, j < M → ¬ (st j = 2 ∧ re j = nI p)) ∨ ac p ≠ 0 ∨ et_cn st se (nI p) M ≠ 0) (hp : post (nI N, nI M, sd, an, nI h, tk, ac, sn, wd, nd, ns, st, se, re)) : wpX_comeHome post (nI N, nI M, sd, an, nI h, tk, ac, sn, wd, nd, ns, st, se, re) (nI p) := by
  unfold wpX_comeHome
  rcases et_first (fun j => st j = 2 ∧ re j = nI p) M with h0 | ⟨s, hs, ⟨h2, hr⟩, hn⟩
  · exact et_xheld_n hM h0 (br_t rfl hp)
  · have hx' := hx.resolve_left (fun z => z s hs ⟨h2, hr⟩)
    refine et_xheld_s hM hs h2 hr hn (br_f (et_m1 (by omega)) ⟨vp_in_nI (by omega) (by decide), br_c (fun z => et_xun hM (br_f ?_ hp)) (fun _ => hp)⟩)
    rw [nI_clamp (by omega)] at z
    have hc := hx'.resolve_left (fun y => y z)
    exact nI_ne0 (Nat.pos_of_ne_zero hc) (by have := et_cn_le st se (nI p) M; omega)
theorem et_xtree_y {post : St2 → Prop} (hN : N ≤ 8) (hM : M ≤ 32) (hsd : sd ≠ 0) (hA : ∀ p, p < N → ac p = 0) (hF : ∀ j, j < M → st j = 0) (hp : post (nI N, nI M, sd, an ||| 1, nI h, tk, ac, sn, wd, nd, ns, st, se, re)) : wpX_applyTreeRule post (nI N, nI M, sd, an, nI h, tk, ac, sn, wd, nd, ns, st, se, re) :=
  br_f hsd (et_xact_n hN hA (br_t rfl (et_xfree_y hM hF (br_f et_n10 (nm_e hp)))))
theorem et_xtree_n {post : St2 → Prop} (hN : N ≤ 8) (hM : M ≤ 32) (hx : sd = 0 ∨ (∃ p, p < N ∧ ac p ≠ 0) ∨ (∃ j, j < M ∧ st j ≠ 0)) (hp : post (nI N, nI M, sd, an, nI h, tk, ac, sn, wd, nd, ns, st, se, re)) : wpX_applyTreeRule post (nI N, nI M, sd, an, nI h, tk, ac, sn, wd, nd, ns, st, se, re) := by
  by_cases h0 : sd = 0
  · exact br_t h0 hp
  · refine br_f h0 ?_
    rcases et_first (fun j => ac j ≠ 0) N with hA | ⟨p, hpN, hA, -⟩
    · have hA' : ∀ j, j < N → ac j = 0 := fun j hj => Decidable.not_not.mp (hA j hj)
      rcases hx.resolve_left h0 with ⟨p, hpN, hy⟩ | ⟨s, hs, hy⟩
      · exact absurd hy (hA p hpN)
      · exact et_xact_n hN hA' (br_t rfl (et_xfree_n hM hs hy (br_t rfl hp)))
    · exact et_xact_s hN hpN hA (br_f et_n10 hp)
theorem et_xeng_t {post : Int32 → Prop} {q : Nat} (hN : N ≤ 8) (hM : M ≤ 32) (hq : q < N) (ht : et_b t) (hr : et_b r) (he : et_eng M sd t st re q) (hp : post 1) : wpX_isEngaged post (nI N, nI M, sd, et_an t r, nI h, tk, ac, sn, wd, nd, ns, st, se, re) (nI q) := by
  unfold wpX_isEngaged
  rcases he with ⟨rfl, h1, h2⟩ | ⟨h0, j, hj, h2, h3⟩
  · exact br_t nI_0 (br_f h1 (et_xA_f ((et_an1 ht hr).mpr h2) (br_t rfl hp)))
  · refine br_f (nI_ne0 (Nat.pos_of_ne_zero h0) (by omega)) ?_
    rcases et_first (fun j => st j = 2 ∧ re j = nI q) M with g0 | ⟨s, hs, ⟨g2, gr⟩, gn⟩
    · exact absurd ⟨h2, h3⟩ (g0 j hj)
    · exact et_xheld_s hM hs g2 gr gn (br_f (et_m1 (by omega)) hp)
theorem et_xeng_f {post : Int32 → Prop} {q : Nat} (hN : N ≤ 8) (hM : M ≤ 32) (hq : q < N) (ht : et_b t) (hr : et_b r) (he : ¬ et_eng M sd t st re q) (hp : post 0) : wpX_isEngaged post (nI N, nI M, sd, et_an t r, nI h, tk, ac, sn, wd, nd, ns, st, se, re) (nI q) := by
  unfold wpX_isEngaged
  by_cases h0 : q = 0
  · subst h0
    refine br_t nI_0 (br_c (fun _ => hp) (fun h1 => et_xA_t ?_ (br_f et_n10 hp)))
    exact fun z => he (Or.inl ⟨rfl, h1, (et_an1 ht hr).mp z⟩)
  · exact br_f (nI_ne0 (Nat.pos_of_ne_zero h0) (by omega)) (et_xheld_n hM (fun j hj z => he (Or.inr ⟨h0, j, hj, z.1, z.2⟩)) (br_t rfl hp))
theorem et_xring_y {post : Int32 → Prop} (hN : N ≤ 8) (hM : M ≤ 32) (h1 : tk = 0) (h2 : ∀ p, p < N → sn p = 0) (h3 : ∀ p, p < N → ac p = 0) (h4 : ∀ j, j < M → st j ≠ 1) (hp : post 1) : wpX_ringFoundQuiet post (nI N, nI M, sd, an, nI h, tk, ac, sn, wd, nd, ns, st, se, re) :=
  br_t h1 (et_xstn_n hN h2 (br_t rfl (et_xact_n hN h3 (br_t rfl (et_xlow_n hM h4 (br_t rfl hp))))))
theorem et_xring_n {post : Int32 → Prop} (hN : N ≤ 8) (hM : M ≤ 32) (hx : tk ≠ 0 ∨ (∃ p, p < N ∧ sn p ≠ 0) ∨ (∃ p, p < N ∧ ac p ≠ 0) ∨ (∃ j, j < M ∧ st j = 1)) (hp : post 0) : wpX_ringFoundQuiet post (nI N, nI M, sd, an, nI h, tk, ac, sn, wd, nd, ns, st, se, re) := by
  by_cases h1 : tk = 0
  · refine br_t h1 ?_
    rcases et_first (fun j => sn j ≠ 0) N with hA | ⟨p, hpN, hA, -⟩
    · refine et_xstn_n hN (fun j hj => Decidable.not_not.mp (hA j hj)) (br_t rfl ?_)
      rcases et_first (fun j => ac j ≠ 0) N with hB | ⟨p, hpN, hB, -⟩
      · refine et_xact_n hN (fun j hj => Decidable.not_not.mp (hB j hj)) (br_t rfl ?_)
        rcases et_first (fun j => st j = 1) M with hC | ⟨s, hs, hC, hn⟩
        · rcases hx with hx | ⟨p, hpN, hx⟩ | ⟨p, hpN, hx⟩ | ⟨j, hj, hx⟩
          · exact absurd h1 hx
          · exact absurd hx (hA p hpN)
          · exact absurd hx (hB p hpN)
          · exact absurd hx (hC j hj)
        · exact et_xlow_s hM hs hC hn (br_f (et_m1 (by omega)) hp)
      · exact et_xact_s hN hpN hB (br_f et_n10 hp)
    · exact et_xstn_s hN hpN hA (br_f et_n10 hp)
  · exact br_f h1 hp
end ETH
end
section
section ETL
variable {N M h g : Nat} {sd an t r tk : Int32} {ac sn wd nd ns st se re : Nat → Int32}
theorem et_xdown_0 {post : St2 → Prop} (hg : g + 1 < 8) (h0 : sn (g + 1) = 0) (hp : post (nI N, nI M, sd, an, nI g, tk, ac, upd sn (g + 1) 0, wd, nd, ns, st, se, re)) : wpX_passTokenDown post (nI N, nI M, sd, an, nI (g + 1), tk, ac, sn, wd, nd, ns, st, se, re) := by
  unfold wpX_passTokenDown
  refine ⟨vp_in_nI (by omega) (by decide), br_t (by rw [nI_clamp (by omega)]; exact h0) ⟨vp_in_nI (by omega) (by decide), nm_r (by rw [nI_clamp (by omega)]) (nm_r (nI_pred g) hp)⟩⟩
theorem et_xdown_1 {post : St2 → Prop} (hg : g + 1 < 8) (h0 : sn (g + 1) ≠ 0) (hp : post (nI N, nI M, sd, an, nI g, 1, ac, upd sn (g + 1) 0, wd, nd, ns, st, se, re)) : wpX_passTokenDown post (nI N, nI M, sd, an, nI (g + 1), tk, ac, sn, wd, nd, ns, st, se, re) := by
  unfold wpX_passTokenDown
  refine ⟨vp_in_nI (by omega) (by decide), br_f (by rw [nI_clamp (by omega)]; exact h0) ⟨vp_in_nI (by omega) (by decide), nm_r (by rw [nI_clamp (by omega)]) (nm_r (nI_pred g) hp)⟩⟩
/-- passToken on the class's side, a case each -/
theorem et_xp_ref {post : Int32 → St2 → Prop} (ht : et_b t) (hr : et_b r) (hx : sd = 0 ∨ r ≠ 0) (hp : post (-4) (nI N, nI M, sd, et_an t r, nI h, tk, ac, sn, wd, nd, ns, st, se, re)) : wpX_passToken post (nI N, nI M, sd, et_an t r, nI h, tk, ac, sn, wd, nd, ns, st, se, re) := by
  unfold wpX_passToken
  refine br_c (fun _ => hp) (fun z => et_xA_t (fun y => ?_) (br_f et_n10 hp))
  exact hx.resolve_left z ((et_an2 ht hr).mp y)
theorem et_xp_busy {post : Int32 → St2 → Prop} (ht : et_b t) (hr : et_b r) (hh : h < 8) (hsd : sd ≠ 0) (h1 : r = 0) (ha : ac h ≠ 0) (hp : post (-5) (nI N, nI M, sd, et_an t r, nI h, tk, ac, sn, wd, nd, ns, st, se, re)) : wpX_passToken post (nI N, nI M, sd, et_an t r, nI h, tk, ac, sn, wd, nd, ns, st, se, re) := by
  unfold wpX_passToken
  exact br_f hsd (et_xA_f ((et_an2 ht hr).mpr h1) (br_t rfl ⟨vp_in_nI hh (by decide), br_f (by rw [nI_clamp (by omega)]; exact ha) hp⟩))
theorem et_xp_down {post : Int32 → St2 → Prop} (ht : et_b t) (hr : et_b r) (hg : g + 1 < 8) (hsd : sd ≠ 0) (h1 : r = 0) (ha : ac (g + 1) = 0) (hp : post 0 (nI N, nI M, sd, et_an t r, nI g, (if sn (g + 1) = 0 then tk else 1), ac, upd sn (g + 1) 0, wd, nd, ns, st, se, re)) : wpX_passToken post (nI N, nI M, sd, et_an t r, nI (g + 1), tk, ac, sn, wd, nd, ns, st, se, re) := by
  unfold wpX_passToken
  refine br_f hsd (et_xA_f ((et_an2 ht hr).mpr h1) (br_t rfl ⟨vp_in_nI hg (by decide), br_t (by rw [nI_clamp (by omega)]; exact ha) (br_f (nI_ne0 (by omega) (by omega)) ?_)⟩))
  by_cases hs : sn (g + 1) = 0
  · rw [if_pos hs] at hp
    exact et_xdown_0 hg hs hp
  · rw [if_neg hs] at hp
    exact et_xdown_1 hg hs hp
theorem et_xp_ring {post : Int32 → St2 → Prop} (hN : N ≤ 8) (hM : M ≤ 32) (hN0 : 0 < N) (ht : et_b t) (hr : et_b r) (hsd : sd ≠ 0) (hr0 : r = 0) (h1 : tk = 0) (h2 : ∀ p, p < N → sn p = 0) (h3 : ∀ p, p < N → ac p = 0) (h4 : ∀ j, j < M → st j ≠ 1) (hp : post 1 (nI N, nI M, sd, et_an t 1, nI 0, tk, ac, sn, wd, nd, ns, st, se, re)) : wpX_passToken post (nI N, nI M, sd, et_an t r, nI 0, tk, ac, sn, wd, nd, ns, st, se, re) := by
  unfold wpX_passToken
  refine br_f hsd (et_xA_f ((et_an2 ht hr).mpr hr0) (br_t rfl ⟨vp_in_nI (by omega) (by decide), br_t (by rw [nI_clamp (by omega)]; exact h3 0 hN0) (br_t nI_0 (et_xring_y (h := 0) hN hM h1 h2 h3 h4 (br_f et_n10 (nm_r (et_or2 ht hr) hp))))⟩))
theorem et_xp_round {post : Int32 → St2 → Prop} (hN : N ≤ 8) (hM : M ≤ 32) (ht : et_b t) (hr : et_b r) (hsd : sd ≠ 0) (hr0 : r = 0) (ha : ac 0 = 0) (hx : tk ≠ 0 ∨ (∃ p, p < N ∧ sn p ≠ 0) ∨ (∃ p, p < N ∧ ac p ≠ 0) ∨ (∃ j, j < M ∧ st j = 1)) (hp : post 0 (nI N, nI M, sd, et_an t r, nI N - 1, 0, ac, upd sn 0 0, wd, nd, ns, st, se, re)) : wpX_passToken post (nI N, nI M, sd, et_an t r, nI 0, tk, ac, sn, wd, nd, ns, st, se, re) := by
  unfold wpX_passToken
  refine br_f hsd (et_xA_f ((et_an2 ht hr).mpr hr0) (br_t rfl ⟨vp_in_nI (by omega) (by decide), br_t (by rw [nI_clamp (by omega)]; exact ha) (br_t nI_0 (et_xring_n (h := 0) hN hM hx (br_t rfl ?_)))⟩))
  unfold wpX_sendTokenRound
  exact nm_e (nm_e hp)
end ETL
section ETS
variable {N M h : Nat} {sd an t r tk : Int32} {ac sn wd nd ns st se re : Nat → Int32}
-- start, the class's loop
theorem et_xst_l {post : Int32 → St2 → Prop} (hN : N ≤ 8) (hp : post 0 (nI N, nI M, 1, 0, 0, 1, et_ca ac N, et_cl sn N, et_cl wd N, et_cl nd N, et_cl ns N, st, se, re)) : ∀ d i, i + d = N → wX_start_20 post (nI N) (nI M) sd an (nI h) tk (d + 1) (nI i) (et_ca ac i) (et_cl sn i) (et_cl wd i) (et_cl nd i) (et_cl ns i) st se re := by
  intro d
  induction d with
  | zero =>
    intro i hi
    have e : i = N := by omega
    subst e
    exact br_t (nI_le (by omega) (by omega)) hp
  | succ d ih =>
    intro i hi
    have hv : vp_in (nI i) 8 := vp_in_nI (by omega) (by decide)
    have hc := nI_clamp (show i < 2 ^ 31 by omega)
    have key : ∀ z0 : Int32, vp_nar .boolean z0 = (if i = 0 then 1 else 0) → wX_start_42 post (wX_start_20 post (nI N) (nI M) sd an (nI h) tk (d + 1)) (nI i) z0 (nI i) (nI N) (nI M) sd an (nI h) tk (et_ca ac i) (et_cl sn i) (et_cl wd i) (et_cl nd i) (et_cl ns i) st se re := by
      intro z0 hz
      refine ⟨hv, nm_r (e' := et_ca ac (i + 1)) (by rw [hc, hz]; rfl) ⟨hv, nm_r (e' := et_cl sn (i + 1)) (by rw [hc]; rfl) ⟨hv, nm_r (e' := et_cl wd (i + 1)) (by rw [hc]; rfl) ⟨hv, nm_r (e' := et_cl nd (i + 1)) (by rw [hc]; rfl) ⟨hv, nm_r (e' := et_cl ns (i + 1)) (by rw [hc]; rfl) (nm_r (nI_1 i) (ih (i + 1) (by omega)))⟩⟩⟩⟩⟩
    refine br_f (nI_ge (by omega) (by omega)) (br_c (fun z => key 1 ?_) (fun z => key 0 ?_))
    · rw [if_pos ((nI_eq (by omega) (by decide)).mp z)]; exact et_vb1
    · rw [if_neg (fun y => z (by rw [y]; exact nI_0))]; exact et_vb0
end ETS
end
section
section EJA
/-- a slot that isn't FREE with sender b: the deficit of b is above 0 -/
def ej_def (M : Nat) (st se : Nat → Int32) (b : Nat) : Prop := ∃ i, i < M ∧ st i ≠ 0 ∧ se i = nI b
/-- the number of FLYING slots below k -/
def ej_fly (st : Nat → Int32) : Nat → Nat
  | 0 => 0
  | k + 1 => if st k = 1 then ej_fly st k + 1 else ej_fly st k
def ej_q (N M : Nat) (ac st : Nat → Int32) : Prop := (∀ p, p < N → ac p = 0) ∧ (∀ j, j < M → st j ≠ 1)
/-- the core of the invariant: E: the process (if any) whose homecoming is still owed -/
def ej_K (N M : Nat) (sd t r : Int32) (ac st se re nd ns : Nat → Int32) (E : Nat → Prop) : Prop :=
  et_Inv N M sd t ac st se re ∧
  (∀ j, j < M → st j ≠ 0 → ∀ a, a < N → se j = nI a → et_eng M sd t st re a) ∧
  (∀ p, p < N → ac p ≠ 0 → et_eng M sd t st re p) ∧
  (∀ j, j < M → st j = 2 → ∀ b, b < N → re j = nI b → ac b = 0 → E b ∨ ej_def M st se b) ∧
  (r ≠ 0 → ej_q N M ac st) ∧
  (∃ ts : Nat → Nat, ∀ j, j < M → st j = 2 → ∀ a b, a < N → b < N → a ≠ 0 → se j = nI a → re j = nI b → ts a < ts b) ∧
  et_sm ns N = et_sm nd N + nI (ej_fly st M)
/-- some process is active or some slot isn't FREE -/
def ej_some (N M : Nat) (ac st : Nat → Int32) : Prop := (∃ p, p < N ∧ ac p ≠ 0) ∨ (∃ j, j < M ∧ st j ≠ 0)
def ej_J (N M : Nat) (sd t r : Int32) (ac st se re nd ns : Nat → Int32) : Prop :=
  ej_K N M sd t r ac st se re nd ns (fun _ => False) ∧ (sd ≠ 0 → t = 0 → ej_some N M ac st)
end EJA
section EJB
theorem ej_nI {a b N : Nat} (hN : N ≤ 8) (ha : a < N) (hb : b < N) (h : nI a = nI b) : a = b := (nI_eq (by omega) (by omega)).mp h
theorem ej_fly_c {f g : Nat → Int32} : ∀ k, (∀ j, j < k → (f j = 1 ↔ g j = 1)) → ej_fly f k = ej_fly g k := by
  intro k
  induction k with
  | zero => exact fun _ => rfl
  | succ k ih =>
    intro h
    have e := ih (fun j hj => h j (by omega))
    have h' := h k (by omega)
    show (if f k = 1 then ej_fly f k + 1 else ej_fly f k) = (if g k = 1 then ej_fly g k + 1 else ej_fly g k)
    by_cases z : f k = 1
    · rw [if_pos z, if_pos (h'.mp z), e]
    · rw [if_neg z, if_neg (fun y => z (h'.mpr y)), e]
theorem ej_fly_up {st : Nat → Int32} {s : Nat} (h0 : st s ≠ 1) : ∀ k, s < k → ej_fly (upd st s 1) k = ej_fly st k + 1 := by
  intro k
  induction k with
  | zero => exact fun h => absurd h (Nat.not_lt_zero s)
  | succ k ih =>
    intro h
    show (if upd st s 1 k = 1 then ej_fly (upd st s 1) k + 1 else ej_fly (upd st s 1) k) = (if st k = 1 then ej_fly st k + 1 else ej_fly st k) + 1
    by_cases e : k = s
    · subst e
      rw [if_pos pk_us, if_neg h0, ej_fly_c (f := upd st k 1) (g := st) k (fun j hj => by rw [pk_un (by omega)])]
    · rw [ih (by omega), pk_un e]
      split <;> rfl
theorem ej_fly_dn {st : Nat → Int32} {s k : Nat} {c : Int32} (h1 : st s = 1) (hc : c ≠ 1) (hs : s < k) : ej_fly st k = ej_fly (upd st s c) k + 1 := by
  rw [← ej_fly_up (st := upd st s c) (s := s) (by rw [pk_us]; exact hc) k hs]
  refine ej_fly_c k (fun j _ => ?_)
  by_cases e : j = s
  · subst e; rw [pk_us, h1]
  · rw [pk_un e, pk_un e]
theorem ej_fly_k {st : Nat → Int32} {s : Nat} {c : Int32} (h1 : st s ≠ 1) (hc : c ≠ 1) (k : Nat) : ej_fly (upd st s c) k = ej_fly st k := by
  refine ej_fly_c k (fun j _ => ?_)
  by_cases e : j = s
  · subst e; rw [pk_us]; exact ⟨fun z => absurd z hc, fun z => absurd z h1⟩
  · rw [pk_un e]
theorem ej_fly_0 {st : Nat → Int32} : ∀ k, (∀ j, j < k → st j ≠ 1) → ej_fly st k = 0 := by
  intro k
  induction k with
  | zero => exact fun _ => rfl
  | succ k ih =>
    intro h
    show (if st k = 1 then ej_fly st k + 1 else ej_fly st k) = 0
    rw [if_neg (h k (by omega))]
    exact ih (fun j hj => h j (by omega))
theorem ej_sm_u (f : Nat → Int32) (p : Nat) (c : Int32) : ∀ n, (p < n → et_sm (upd f p (f p + c)) n = et_sm f n + c) ∧ (n ≤ p → et_sm (upd f p (f p + c)) n = et_sm f n) := by
  intro n
  induction n with
  | zero => exact ⟨fun h => absurd h (Nat.not_lt_zero p), fun _ => rfl⟩
  | succ n ih =>
    constructor
    · intro h
      show et_sm (upd f p (f p + c)) n + upd f p (f p + c) n = et_sm f n + f n + c
      by_cases e : n = p
      · subst e; rw [ih.2 (Nat.le_refl n), pk_us, Int32.add_assoc]
      · rw [ih.1 (by omega), pk_un e, Int32.add_assoc, Int32.add_assoc, Int32.add_comm c]
    · intro h
      show et_sm (upd f p (f p + c)) n + upd f p (f p + c) n = et_sm f n + f n
      rw [ih.2 (by omega), pk_un (by omega)]
theorem ej_eng_m {M : Nat} {sd t : Int32} {st re st' re' : Nat → Int32} {p : Nat} (h : ∀ j, j < M → st j = 2 → st' j = 2 ∧ re' j = re j) (e : et_eng M sd t st re p) : et_eng M sd t st' re' p := by
  rcases e with e | ⟨h0, j, hj, a, b⟩
  · exact Or.inl e
  · exact Or.inr ⟨h0, j, hj, (h j hj a).1, (h j hj a).2.trans b⟩
theorem ej_def_m {M : Nat} {st se st' se' : Nat → Int32} {b : Nat} (h : ∀ i, i < M → st i ≠ 0 → st' i ≠ 0 ∧ se' i = se i) (e : ej_def M st se b) : ej_def M st' se' b := by
  obtain ⟨i, hi, a, c⟩ := e
  exact ⟨i, hi, (h i hi a).1, (h i hi a).2.trans c⟩
theorem ej_cn0 {st se : Nat → Int32} {p : Int32} : ∀ k, (∀ i, i < k → st i ≠ 0 → se i ≠ p) → et_cn st se p k = 0 := by
  intro k
  induction k with
  | zero => exact fun _ => rfl
  | succ k ih =>
    intro h
    rw [et_cn_f (fun z => h k (by omega) z.1 z.2)]
    exact ih (fun i hi => h i (by omega))
theorem ej_cnp {st se : Nat → Int32} {p : Int32} {i : Nat} (h0 : st i ≠ 0) (h1 : se i = p) : ∀ k, i < k → 0 < et_cn st se p k := by
  intro k
  induction k with
  | zero => exact fun h => absurd h (Nat.not_lt_zero i)
  | succ k ih =>
    intro h
    by_cases e : i = k
    · subst e; rw [et_cn_t h0 h1]; omega
    · have := ih (by omega)
      by_cases z : st k ≠ 0 ∧ se k = p
      · rw [et_cn_t z.1 z.2]; omega
      · rw [et_cn_f z]; exact this
/-- a number above every stamp -/
def ej_big (ts : Nat → Nat) : Nat → Nat
  | 0 => 1
  | n + 1 => ej_big ts n + ts n
theorem ej_big_lt (ts : Nat → Nat) {p : Nat} : ∀ n, p < n → ts p < ej_big ts n := by
  have hp : ∀ n, 0 < ej_big ts n := by
    intro n
    induction n with
    | zero => exact Nat.one_pos
    | succ n ih => show 0 < ej_big ts n + ts n; omega
  intro n
  induction n with
  | zero => exact fun h => absurd h (Nat.not_lt_zero p)
  | succ n ih =>
    intro h
    show ts p < ej_big ts n + ts n
    have := hp n
    by_cases e : p = n
    · subst e; omega
    · have := ih (by omega); omega
end EJB
section EJC
variable {N M : Nat} {sd t r : Int32} {ac st se re nd ns : Nat → Int32}
/-- send: a note of an active process a into a FREE slot s -/
theorem ej_send (hN : N ≤ 8) (hK : ej_K N M sd t r ac st se re nd ns (fun _ => False)) {a b s : Nat} (ha : a < N) (hb : b < N) (hs : s < M) (h0 : st s = 0) (hac : ac a ≠ 0) :
    ej_J N M sd t r ac (upd st s 1) (upd se s (nI a)) (upd re s (nI b)) nd (upd ns a (ns a + 1)) := by
  obtain ⟨I, k1, k2, k3, k5, ⟨ts, k6⟩, k7⟩ := hK
  have hne : ∀ j, st j ≠ 0 → j ≠ s := fun j hj e => hj (e ▸ h0)
  have hd : ∀ j, st j = 2 → j ≠ s := fun j hj => hne j (by rw [hj]; exact et_n20)
  have hg : ∀ p, et_eng M sd t st re p → et_eng M sd t (upd st s 1) (upd re s (nI b)) p := fun p hp =>
    ej_eng_m (fun j hj e => ⟨by rw [pk_un (hd j e)]; exact e, pk_un (hd j e)⟩) hp
  have h2' : ∀ j, upd st s 1 j = 2 → j ≠ s ∧ st j = 2 := fun j e => by
    by_cases z : j = s
    · subst z; rw [pk_us] at e; exact absurd e et_n12
    · rw [pk_un z] at e; exact ⟨z, e⟩
  refine ⟨⟨et_send I ha hb hac, ?_, ?_, ?_, ?_, ⟨ts, ?_⟩, ?_⟩, fun _ _ => Or.inl ⟨a, ha, hac⟩⟩
  · intro j hj e c hc ec
    by_cases z : j = s
    · subst z; rw [pk_us] at ec
      have : a = c := ej_nI hN ha hc ec
      subst this
      exact hg a (k2 a ha hac)
    · rw [pk_un z] at e ec; exact hg c (k1 j hj e c hc ec)
  · exact fun p hp e => hg p (k2 p hp e)
  · intro j hj e c hc ec h
    obtain ⟨z, e'⟩ := h2' j e
    rw [pk_un z] at ec
    rcases k3 j hj e' c hc ec h with f | f
    · exact Or.inl f
    · exact Or.inr (ej_def_m (fun i _ hi => ⟨by rw [pk_un (hne i hi)]; exact hi, pk_un (hne i hi)⟩) f)
  · exact fun h => absurd ((k5 h).1 a ha) hac
  · intro j hj e c d hc hd' hc0 e1 e2
    obtain ⟨z, e'⟩ := h2' j e
    rw [pk_un z] at e1 e2
    exact k6 j hj e' c d hc hd' hc0 e1 e2
  · rw [(ej_sm_u ns a 1 N).1 ha, k7, ej_fly_up (by rw [h0]; decide) M hs, nI_succ, Int32.add_assoc]
/-- a FLYING note s delivered to q: REPLYING if q is engaged, else HELD -/
theorem ej_work (hN : N ≤ 8) (ht : et_b t) (hK : ej_K N M sd t r ac st se re nd ns (fun _ => False)) {q s : Nat} {c : Int32} (hq : q < N) (hs : s < M) (h1 : st s = 1) (hr : re s = nI q)
    (hc : (c = 3 ∧ et_eng M sd t st re q) ∨ (c = 2 ∧ ¬ et_eng M sd t st re q)) :
    ej_J N M sd t r (upd ac q 1) (upd st s c) se re (upd nd q (nd q + 1)) ns := by
  obtain ⟨I, k1, k2, k3, k5, ⟨ts, k6⟩, k7⟩ := hK
  have s0 : st s ≠ 0 := by rw [h1]; exact et_n10
  have c0 : c ≠ 0 := by rcases hc with ⟨h, -⟩ | ⟨h, -⟩ <;> rw [h] <;> decide
  have c1 : c ≠ 1 := by rcases hc with ⟨h, -⟩ | ⟨h, -⟩ <;> rw [h] <;> decide
  have hd : ∀ j, st j = 2 → j ≠ s := fun j hj e => by rw [e, h1] at hj; exact et_n12 hj
  have hg : ∀ p, et_eng M sd t st re p → et_eng M sd t (upd st s c) re p := fun p hp =>
    ej_eng_m (fun j hj e => ⟨by rw [pk_un (hd j e)]; exact e, rfl⟩) hp
  have h5 : sd ≠ 0 ∧ t = 0 := by
    constructor
    · intro z; exact s0 ((I.2.2.2.2 (Or.inl z)).1 s hs)
    · rcases ht with z | z
      · exact z
      · exact absurd ((I.2.2.2.2 (Or.inr z)).1 s hs) s0
  have hn : ¬ et_eng M sd t st re q → q ≠ 0 ∧ ∀ j, j < M → st j = 2 → re j ≠ nI q := by
    intro z
    have q0 : q ≠ 0 := fun e => z (Or.inl ⟨e, h5⟩)
    exact ⟨q0, fun j hj e e' => z (Or.inr ⟨q0, j, hj, e, e'⟩)⟩
  have hI : et_Inv N M sd t ac (upd st s c) se re := by
    refine et_put I hs s0 ?_
    rcases hc with ⟨h, -⟩ | ⟨h, z⟩
    · exact Or.inr (Or.inl h)
    · refine Or.inr (Or.inr ⟨h, ?_, ?_⟩)
      · rw [hr]; exact nI_ne0 (Nat.pos_of_ne_zero (hn z).1) (by omega)
      · rw [hr]; exact (hn z).2
  have hs' : upd st s c s ≠ 0 := by rw [pk_us]; exact c0
  refine ⟨⟨et_wake hI hs hs' _, ?_, ?_, ?_, ?_, ?_, ?_⟩, fun _ _ => Or.inr ⟨s, hs, hs'⟩⟩
  · intro j hj e a ha ea
    by_cases z : j = s
    · subst z; exact hg a (k1 j hj s0 a ha ea)
    · rw [pk_un z] at e; exact hg a (k1 j hj e a ha ea)
  · intro p hp e
    by_cases z : p = q
    · subst z
      rcases hc with ⟨-, h⟩ | ⟨h, y⟩
      · exact hg p h
      · exact Or.inr ⟨(hn y).1, s, hs, by rw [pk_us]; exact h, hr⟩
    · rw [pk_un z] at e; exact hg p (k2 p hp e)
  · intro j hj e b hb eb h
    by_cases zb : b = q
    · subst zb; rw [pk_us] at h; exact absurd h et_n10
    · rw [pk_un zb] at h
      by_cases z : j = s
      · subst z; exact absurd (ej_nI hN hb hq (eb.symm.trans hr)) zb
      · rw [pk_un z] at e
        rcases k3 j hj e b hb eb h with f | f
        · exact Or.inl f
        · refine Or.inr (ej_def_m (fun i _ hi => ⟨?_, rfl⟩) f)
          by_cases y : i = s
          · subst y; exact hs'
          · rw [pk_un y]; exact hi
  · exact fun h => absurd h1 ((k5 h).2 s hs)
  · rcases hc with ⟨h, -⟩ | ⟨h, y⟩
    · refine ⟨ts, fun j hj e => ?_⟩
      by_cases z : j = s
      · subst z; rw [pk_us, h] at e; exact absurd e et_n32
      · rw [pk_un z] at e; exact k6 j hj e
    · refine ⟨fun p => if p = q then ej_big ts N else ts p, fun j hj e a b ha hb ha0 ea eb => ?_⟩
      have aq : a ≠ q := by
        intro z; subst z
        refine y ?_
        by_cases z : j = s
        · subst z; exact k1 j hj s0 a ha ea
        · rw [pk_un z] at e; exact k1 j hj (by rw [e]; exact et_n20) a ha ea
      show (if a = q then ej_big ts N else ts a) < (if b = q then ej_big ts N else ts b)
      rw [if_neg aq]
      by_cases z : j = s
      · subst z
        rw [if_pos (ej_nI hN hb hq (eb.symm.trans hr))]
        exact ej_big_lt ts N ha
      · rw [pk_un z] at e
        have bq : b ≠ q := fun z => (hn y).2 j hj e (by rw [← z]; exact eb)
        rw [if_neg bq]
        exact k6 j hj e a b ha hb ha0 ea eb
  · rw [(ej_sm_u nd q 1 N).1 hq, k7, ej_fly_dn h1 c1 hs, nI_succ]
    rw [Int32.add_assoc, Int32.add_comm 1]
/-- rest: p is no longer active, its homecoming is owed -/
theorem ej_rest (hK : ej_K N M sd t r ac st se re nd ns (fun _ => False)) (p : Nat) : ej_K N M sd t r (upd ac p 0) st se re nd ns (fun b => b = p) := by
  obtain ⟨I, k1, k2, k3, k5, k6, k7⟩ := hK
  refine ⟨et_rest I p, k1, ?_, ?_, ?_, k6, k7⟩
  · intro b hb e
    by_cases z : b = p
    · subst z; rw [pk_us] at e; exact absurd rfl e
    · rw [pk_un z] at e; exact k2 b hb e
  · intro j hj e b hb eb h
    by_cases z : b = p
    · exact Or.inl z
    · rw [pk_un z] at h; exact Or.inr ((k3 j hj e b hb eb h).resolve_left id)
  · intro h
    refine ⟨fun b hb => ?_, (k5 h).2⟩
    by_cases z : b = p
    · subst z; exact pk_us
    · rw [pk_un z]; exact (k5 h).1 b hb
/-- an acknowledgement s delivered to its sender p, whose homecoming is then owed -/
theorem ej_ack (hN : N ≤ 8) (hK : ej_K N M sd t r ac st se re nd ns (fun _ => False)) {p s : Nat} (hp : p < N) (hs : s < M) (h3 : st s = 3) (hse : se s = nI p) : ej_K N M sd t r ac (upd st s 0) se re nd ns (fun b => b = p) := by
  obtain ⟨I, k1, k2, k3, k5, ⟨ts, k6⟩, k7⟩ := hK
  have s0 : st s ≠ 0 := by rw [h3]; exact et_n30
  have hd : ∀ j, st j = 2 → j ≠ s := fun j hj e => by rw [e, h3] at hj; exact et_n32 hj
  have hg : ∀ q, et_eng M sd t st re q → et_eng M sd t (upd st s 0) re q := fun q hq =>
    ej_eng_m (fun j hj e => ⟨by rw [pk_un (hd j e)]; exact e, rfl⟩) hq
  have h2' : ∀ j, upd st s 0 j ≠ 0 → j ≠ s ∧ st j ≠ 0 := fun j e => by
    by_cases z : j = s
    · subst z; rw [pk_us] at e; exact absurd rfl e
    · rw [pk_un z] at e; exact ⟨z, e⟩
  have h2 : ∀ j, upd st s 0 j = 2 → j ≠ s ∧ st j = 2 := fun j e => by
    by_cases z : j = s
    · subst z; rw [pk_us] at e; exact absurd e et_n02
    · rw [pk_un z] at e; exact ⟨z, e⟩
  refine ⟨et_put I hs s0 (Or.inl rfl), ?_, ?_, ?_, ?_, ⟨ts, ?_⟩, ?_⟩
  · exact fun j hj e a ha ea => hg a (k1 j hj (h2' j e).2 a ha ea)
  · exact fun b hb e => hg b (k2 b hb e)
  · intro j hj e b hb eb h
    by_cases z : b = p
    · exact Or.inl z
    · obtain ⟨i, hi, x, y⟩ := (k3 j hj (h2 j e).2 b hb eb h).resolve_left id
      have is : i ≠ s := fun w => z (ej_nI hN hb hp (by rw [← y, w]; exact hse))
      exact Or.inr ⟨i, hi, by rw [pk_un is]; exact x, y⟩
  · intro h
    refine ⟨(k5 h).1, fun j hj e => ?_⟩
    by_cases z : j = s
    · subst z; rw [pk_us] at e; exact absurd e (by decide)
    · rw [pk_un z] at e; exact (k5 h).2 j hj e
  · exact fun j hj e => k6 j hj (h2 j e).2
  · rw [ej_fly_k (by rw [h3]; decide) (by decide)]; exact k7
/-- homecoming of p that takes place -/
theorem ej_home (hN : N ≤ 8) {p : Nat} (hK : ej_K N M sd t r ac st se re nd ns (fun b => b = p)) {s : Nat} (hp : p < N) (hs : s < M) (h2 : st s = 2) (hr : re s = nI p) (ha : ac p = 0) (hd : ¬ ej_def M st se p) : ej_K N M sd t r ac (upd st s 3) se re nd ns (fun _ => False) := by
  obtain ⟨I, k1, k2, k3, k5, ⟨ts, k6⟩, k7⟩ := hK
  have s0 : st s ≠ 0 := by rw [h2]; exact et_n20
  have uq : ∀ j, j < M → st j = 2 → re j = nI p → j = s := fun j hj e e' => I.2.2.2.1 j s hj hs e h2 (e'.trans hr.symm)
  have hg : ∀ q, q < N → q ≠ p → et_eng M sd t st re q → et_eng M sd t (upd st s 3) re q := by
    intro q hq hqp e
    rcases e with e | ⟨q0, j, hj, e, e'⟩
    · exact Or.inl e
    · have js : j ≠ s := fun z => hqp (ej_nI hN hq hp (by rw [← e', z]; exact hr))
      exact Or.inr ⟨q0, j, hj, by rw [pk_un js]; exact e, e'⟩
  have hz : ∀ j, upd st s 3 j ≠ 0 → st j ≠ 0 := fun j e => by
    by_cases z : j = s
    · subst z; exact s0
    · rw [pk_un z] at e; exact e
  have hz' : ∀ j, st j ≠ 0 → upd st s 3 j ≠ 0 := fun j e => by
    by_cases z : j = s
    · subst z; rw [pk_us]; exact et_n30
    · rw [pk_un z]; exact e
  have h2' : ∀ j, upd st s 3 j = 2 → j ≠ s ∧ st j = 2 := fun j e => by
    by_cases z : j = s
    · subst z; rw [pk_us] at e; exact absurd e et_n32
    · rw [pk_un z] at e; exact ⟨z, e⟩
  refine ⟨et_put I hs s0 (Or.inr (Or.inl rfl)), ?_, ?_, ?_, ?_, ⟨ts, ?_⟩, ?_⟩
  · intro j hj e a ha' ea
    have ap : a ≠ p := fun z => hd ⟨j, hj, hz j e, by rw [← z]; exact ea⟩
    exact hg a ha' ap (k1 j hj (hz j e) a ha' ea)
  · intro q hq e
    have qp : q ≠ p := fun z => e (by rw [z]; exact ha)
    exact hg q hq qp (k2 q hq e)
  · intro j hj e b hb eb h
    obtain ⟨js, e'⟩ := h2' j e
    have bp : b ≠ p := fun z => js (uq j hj e' (by rw [← z]; exact eb))
    exact Or.inr (ej_def_m (fun i _ hi => ⟨hz' i hi, rfl⟩) ((k3 j hj e' b hb eb h).resolve_left bp))
  · intro h
    refine ⟨(k5 h).1, fun j hj e => ?_⟩
    by_cases z : j = s
    · subst z; rw [pk_us] at e; exact absurd e (by decide)
    · rw [pk_un z] at e; exact (k5 h).2 j hj e
  · exact fun j hj e => k6 j hj (h2' j e).2
  · rw [ej_fly_k (by rw [h2]; decide) (by decide)]; exact k7
/-- homecoming of p that changes nothing -/
theorem ej_nohome {p : Nat} (hN : N ≤ 8) (hp : p < N) (hK : ej_K N M sd t r ac st se re nd ns (fun b => b = p)) (h : (∀ j, j < M → st j = 2 → re j ≠ nI p) ∨ ac p ≠ 0 ∨ ej_def M st se p) : ej_K N M sd t r ac st se re nd ns (fun _ => False) := by
  obtain ⟨I, k1, k2, k3, k5, k6, k7⟩ := hK
  refine ⟨I, k1, k2, ?_, k5, k6, k7⟩
  intro j hj e b hb eb ha
  rcases k3 j hj e b hb eb ha with z | z
  · subst z
    rcases h with h | h | h
    · exact absurd eb (h j hj e)
    · exact absurd ha h
    · exact Or.inr h
  · exact Or.inr z
/-- the TREE RULE -/
theorem ej_tree (hK : ej_K N M sd t r ac st se re nd ns (fun _ => False)) (hF : ∀ j, j < M → st j = 0) (hA : ∀ p, p < N → ac p = 0) : ej_J N M sd 1 r ac st se re nd ns := by
  obtain ⟨I, k1, k2, k3, k5, k6, k7⟩ := hK
  exact ⟨⟨et_tree I hF hA 1, fun j hj e => absurd (hF j hj) e, fun p hp e => absurd (hA p hp) e, k3, k5, k6, k7⟩, fun _ z => absurd z et_n10⟩
theorem ej_notree (hK : ej_K N M sd t r ac st se re nd ns (fun _ => False)) (h : sd = 0 ∨ ej_some N M ac st) : ej_J N M sd t r ac st se re nd ns :=
  ⟨hK, fun z _ => h.resolve_left z⟩
/-- RING is announced in a quiet state -/
theorem ej_ring (hJ : ej_J N M sd t r ac st se re nd ns) (h : ej_q N M ac st) (r' : Int32) : ej_J N M sd t r' ac st se re nd ns :=
  ⟨⟨hJ.1.1, hJ.1.2.1, hJ.1.2.2.1, hJ.1.2.2.2.1, fun _ => h, hJ.1.2.2.2.2.2.1, hJ.1.2.2.2.2.2.2⟩, hJ.2⟩
/-- a start that isn't refused -/
theorem ej_start (I : et_Inv N M sd t ac st se re) (hN : 0 < N) (hF : ∀ j, j < M → st j = 0) {ac' nd' ns' : Nat → Int32} (hA : ac' 0 ≠ 0) (hA' : ∀ p, p < N → p ≠ 0 → ac' p = 0) (h1 : ∀ p, p < N → nd' p = 0) (h2 : ∀ p, p < N → ns' p = 0) : ej_J N M 1 0 0 ac' st se re nd' ns' := by
  have hs : ∀ (f : Nat → Int32) (n : Nat), (∀ p, p < n → f p = 0) → et_sm f n = 0 := by
    intro f n
    induction n with
    | zero => exact fun _ => rfl
    | succ n ih =>
      intro h
      show et_sm f n + f n = 0
      rw [ih (fun p hp => h p (by omega)), h n (by omega)]; rfl
  refine ⟨⟨et_start I ac', fun j hj e => absurd (hF j hj) e, ?_, ?_, fun z => absurd rfl z, ⟨fun _ => 0, ?_⟩, ?_⟩, fun _ _ => Or.inl ⟨0, hN, hA⟩⟩
  · intro p hp e
    by_cases z : p = 0
    · exact Or.inl ⟨z, et_n10, rfl⟩
    · exact absurd (hA' p hp z) e
  · exact fun j hj e => absurd ((hF j hj).symm.trans e) et_n02
  · exact fun j hj e => absurd ((hF j hj).symm.trans e) et_n02
  · rw [hs ns' N h2, hs nd' N h1, ej_fly_0 M (fun j hj => by rw [hF j hj]; decide)]; rfl
/-- a quiet state without REPLYING slots, started: TREE is announced -/
theorem ej_done (hN : N ≤ 8) (ht : et_b t) (hJ : ej_J N M sd t r ac st se re nd ns) (hq : ej_q N M ac st) (h3 : ∀ j, j < M → st j ≠ 3) (hsd : sd ≠ 0) : t = 1 := by
  obtain ⟨⟨I, k1, k2, k3, k5, ⟨ts, k6⟩, k7⟩, k4⟩ := hJ
  have h2 : ∀ j, j < M → st j ≠ 0 → st j = 2 := by
    intro j hj e
    rcases I.1 j hj with z | z | z | z
    · exact absurd z e
    · exact absurd z (hq.2 j hj)
    · exact z
    · exact absurd z (h3 j hj)
  have hno : ∀ d j b, j < M → st j = 2 → b < N → re j = nI b → ej_big ts N ≤ ts b + d → False := by
    intro d
    induction d with
    | zero => intro j b hj e hb eb h; have := ej_big_lt ts N hb; omega
    | succ d ih =>
      intro j b hj e hb eb h
      obtain ⟨i, hi, e1, e2⟩ := (k3 j hj e b hb eb (hq.1 b hb)).resolve_left id
      have i2 := h2 i hi e1
      obtain ⟨-, b', hb', eb'⟩ := I.2.1 i hi e1
      have b0 : b ≠ 0 := fun z => I.2.2.1 j hj e (by rw [eb, z]; exact nI_0)
      have := k6 i hi i2 b b' hb hb' b0 e2 eb'
      exact ih i b' hi i2 hb' eb' (by omega)
  rcases ht with z | z
  · rcases k4 hsd z with ⟨p, hp, e⟩ | ⟨j, hj, e⟩
    · exact absurd (hq.1 p hp) e
    · obtain ⟨-, b, hb, eb⟩ := I.2.1 j hj e
      exact absurd (hno (ej_big ts N) j b hj (h2 j hj e) hb eb (by omega)) id
  · exact z
end EJC
section EJD
/-- how many processes in 1 .. k-1 have a stamp below x -/
def ej_lt (ts : Nat → Nat) (x : Nat) : Nat → Nat
  | 0 => 0
  | k + 1 => if k ≠ 0 ∧ ts k < x then ej_lt ts x k + 1 else ej_lt ts x k
theorem ej_lt_mono (ts : Nat → Nat) {x y : Nat} (h : x ≤ y) : ∀ k, ej_lt ts x k ≤ ej_lt ts y k := by
  intro k
  induction k with
  | zero => exact Nat.le_refl _
  | succ k ih =>
    show (if k ≠ 0 ∧ ts k < x then ej_lt ts x k + 1 else ej_lt ts x k) ≤ (if k ≠ 0 ∧ ts k < y then ej_lt ts y k + 1 else ej_lt ts y k)
    by_cases z : k ≠ 0 ∧ ts k < x
    · rw [if_pos z, if_pos ⟨z.1, by omega⟩]; omega
    · rw [if_neg z]; split <;> omega
theorem ej_lt_strict (ts : Nat → Nat) {x y q : Nat} (hq : q ≠ 0) (h1 : x ≤ ts q) (h2 : ts q < y) : ∀ k, q < k → ej_lt ts x k < ej_lt ts y k := by
  intro k
  induction k with
  | zero => exact fun h => absurd h (Nat.not_lt_zero q)
  | succ k ih =>
    intro h
    show (if k ≠ 0 ∧ ts k < x then ej_lt ts x k + 1 else ej_lt ts x k) < (if k ≠ 0 ∧ ts k < y then ej_lt ts y k + 1 else ej_lt ts y k)
    by_cases e : q = k
    · subst e
      rw [if_neg (fun z => by have := z.2; omega), if_pos ⟨hq, h2⟩]
      have := ej_lt_mono ts (x := x) (y := y) (by omega) q
      omega
    · have := ih (by omega)
      by_cases z : k ≠ 0 ∧ ts k < x
      · rw [if_pos z, if_pos ⟨z.1, by omega⟩]; omega
      · rw [if_neg z]; split <;> omega
theorem ej_lt_le (ts : Nat → Nat) (x : Nat) : ∀ k, ej_lt ts x (k + 1) ≤ k := by
  intro k
  induction k with
  | zero => show (if (0 : Nat) ≠ 0 ∧ ts 0 < x then ej_lt ts x 0 + 1 else ej_lt ts x 0) ≤ 0; rw [if_neg (fun z => z.1 rfl)]; exact Nat.le_refl 0
  | succ k ih =>
    show (if k + 1 ≠ 0 ∧ ts (k + 1) < x then ej_lt ts x (k + 1) + 1 else ej_lt ts x (k + 1)) ≤ k + 1
    split <;> omega
theorem ej_lt_bd (ts : Nat → Nat) {x q : Nat} (hq : q ≠ 0) (h1 : x ≤ ts q) : ∀ k, q < k → ej_lt ts x k + 2 ≤ k := by
  intro k
  induction k with
  | zero => exact fun h => absurd h (Nat.not_lt_zero q)
  | succ k ih =>
    intro h
    by_cases e : q = k
    · subst e
      show (if q ≠ 0 ∧ ts q < x then ej_lt ts x q + 1 else ej_lt ts x q) + 2 ≤ q + 1
      rw [if_neg (fun z => by have := z.2; omega)]
      obtain ⟨m, rfl⟩ : ∃ m, q = m + 1 := ⟨q - 1, by omega⟩
      have := ej_lt_le ts x m
      omega
    · have := ih (by omega)
      show (if k ≠ 0 ∧ ts k < x then ej_lt ts x k + 1 else ej_lt ts x k) + 2 ≤ k + 1
      split <;> omega
/-- the number of slots below k that aren't FREE -/
def ej_nf (st : Nat → Int32) : Nat → Nat
  | 0 => 0
  | k + 1 => if st k ≠ 0 then ej_nf st k + 1 else ej_nf st k
theorem ej_nf_le (st : Nat → Int32) : ∀ k, ej_nf st k ≤ k := by
  intro k
  induction k with
  | zero => exact Nat.le_refl _
  | succ k ih =>
    show (if st k ≠ 0 then ej_nf st k + 1 else ej_nf st k) ≤ k + 1
    split <;> omega
theorem ej_nf_c {f g : Nat → Int32} : ∀ k, (∀ j, j < k → (f j ≠ 0 ↔ g j ≠ 0)) → ej_nf f k = ej_nf g k := by
  intro k
  induction k with
  | zero => exact fun _ => rfl
  | succ k ih =>
    intro h
    have e := ih (fun j hj => h j (by omega))
    have h' := h k (by omega)
    show (if f k ≠ 0 then ej_nf f k + 1 else ej_nf f k) = (if g k ≠ 0 then ej_nf g k + 1 else ej_nf g k)
    by_cases z : f k ≠ 0
    · rw [if_pos z, if_pos (h'.mp z), e]
    · rw [if_neg z, if_neg (fun y => z (h'.mpr y)), e]
theorem ej_nf_dn {st : Nat → Int32} {s : Nat} (h0 : st s ≠ 0) : ∀ k, s < k → ej_nf st k = ej_nf (upd st s 0) k + 1 := by
  intro k
  induction k with
  | zero => exact fun h => absurd h (Nat.not_lt_zero s)
  | succ k ih =>
    intro h
    show (if st k ≠ 0 then ej_nf st k + 1 else ej_nf st k) = (if upd st s 0 k ≠ 0 then ej_nf (upd st s 0) k + 1 else ej_nf (upd st s 0) k) + 1
    by_cases e : k = s
    · subst e
      rw [if_pos h0, if_neg (fun z => z pk_us), ej_nf_c (f := upd st k 0) (g := st) k (fun j hj => by rw [pk_un (by omega)])]
    · rw [ih (by omega), pk_un e]
      split <;> rfl
theorem ej_nf_0 {st : Nat → Int32} : ∀ k, ej_nf st k = 0 → ∀ j, j < k → st j = 0 := by
  intro k
  induction k with
  | zero => exact fun _ j hj => absurd hj (Nat.not_lt_zero j)
  | succ k ih =>
    intro h j hj
    have h' : (if st k ≠ 0 then ej_nf st k + 1 else ej_nf st k) = 0 := h
    by_cases z : st k ≠ 0
    · rw [if_pos z] at h'; omega
    · rw [if_neg z] at h'
      by_cases e : j = k
      · subst e; exact Decidable.not_not.mp z
      · exact ih h' j (by omega)
end EJD
end
section
section EMA
variable {N M h : Nat} {sd an t r tk : Int32} {ac sn wd nd ns st se re : Nat → Int32}
/-- homecoming of p, owed -/
theorem ej_xhome (hN : N ≤ 8) (hM : M ≤ 32) {p : Nat} (hp : p < N) (hK : ej_K N M sd t r ac st se re nd ns (fun b => b = p)) : ∃ st' : Nat → Int32, ej_K N M sd t r ac st' se re nd ns (fun _ => False) ∧ (∀ j, st' j = 1 ↔ st j = 1) ∧ (∀ j, st' j ≠ 0 ↔ st j ≠ 0) ∧ (∀ (an : Int32) (post : St2 → Prop), post (nI N, nI M, sd, an, nI h, tk, ac, sn, wd, nd, ns, st', se, re) → wpX_comeHome post (nI N, nI M, sd, an, nI h, tk, ac, sn, wd, nd, ns, st, se, re) (nI p)) := by
  rcases et_first (fun j => st j = 2 ∧ re j = nI p) M with h0 | ⟨s, hs, ⟨h2, hr⟩, hn⟩
  · exact ⟨st, ej_nohome hN hp hK (Or.inl (fun j hj e e' => h0 j hj ⟨e, e'⟩)), fun _ => Iff.rfl, fun _ => Iff.rfl, fun an post hq => et_xhome_n hN hM hp (Or.inl h0) hq⟩
  · by_cases ha : ac p = 0
    · by_cases hd : ej_def M st se p
      · obtain ⟨i, hi, e1, e2⟩ := hd
        have hc := ej_cnp e1 e2 M hi
        exact ⟨st, ej_nohome hN hp hK (Or.inr (Or.inr ⟨i, hi, e1, e2⟩)), fun _ => Iff.rfl, fun _ => Iff.rfl, fun an post hq => et_xhome_n hN hM hp (Or.inr (Or.inr (by omega))) hq⟩
      · have hc : et_cn st se (nI p) M = 0 := ej_cn0 M (fun i hi e1 e2 => hd ⟨i, hi, e1, e2⟩)
        refine ⟨upd st s 3, ej_home hN hK hp hs h2 hr ha hd, fun j => ?_, fun j => ?_, fun an post hq => et_xhome_y hN hM hp hs h2 hr hn ha hc hq⟩
        · by_cases e : j = s
          · subst e; rw [pk_us, h2]; exact ⟨fun z => absurd z (by decide), fun z => absurd z (by decide)⟩
          · rw [pk_un e]
        · by_cases e : j = s
          · subst e; rw [pk_us, h2]; exact ⟨fun _ => et_n20, fun _ => et_n30⟩
          · rw [pk_un e]
    · exact ⟨st, ej_nohome hN hp hK (Or.inr (Or.inl ha)), fun _ => Iff.rfl, fun _ => Iff.rfl, fun an post hq => et_xhome_n hN hM hp (Or.inr (Or.inl ha)) hq⟩
/-- the TREE RULE -/
theorem ej_xrule (hN : N ≤ 8) (hM : M ≤ 32) (ht : et_b t) (hr : et_b r) (hK : ej_K N M sd t r ac st se re nd ns (fun _ => False)) : ∃ t' : Int32, et_b t' ∧ (t ≠ 0 → t' ≠ 0) ∧ ej_J N M sd t' r ac st se re nd ns ∧ (∀ post : St2 → Prop, post (nI N, nI M, sd, et_an t' r, nI h, tk, ac, sn, wd, nd, ns, st, se, re) → wpX_applyTreeRule post (nI N, nI M, sd, et_an t r, nI h, tk, ac, sn, wd, nd, ns, st, se, re)) := by
  by_cases h0 : sd = 0
  · exact ⟨t, ht, id, ej_notree hK (Or.inl h0), fun post hq => et_xtree_n hN hM (Or.inl h0) hq⟩
  · rcases et_first (fun j => ac j ≠ 0) N with hA | ⟨p, hpN, hA, -⟩
    · rcases et_first (fun j => st j ≠ 0) M with hF | ⟨s, hs, hF, -⟩
      · have hA' : ∀ j, j < N → ac j = 0 := fun j hj => Decidable.not_not.mp (hA j hj)
        have hF' : ∀ j, j < M → st j = 0 := fun j hj => Decidable.not_not.mp (hF j hj)
        refine ⟨1, et_b1, fun _ => et_n10, ej_tree hK hF' hA', fun post hq => et_xtree_y hN hM h0 hA' hF' ?_⟩
        rw [et_or1 ht hr]; exact hq
      · exact ⟨t, ht, id, ej_notree hK (Or.inr (Or.inr ⟨s, hs, hF⟩)), fun post hq => et_xtree_n hN hM (Or.inr (Or.inr ⟨s, hs, hF⟩)) hq⟩
    · exact ⟨t, ht, id, ej_notree hK (Or.inr (Or.inl ⟨p, hpN, hA⟩)), fun post hq => et_xtree_n hN hM (Or.inr (Or.inl ⟨p, hpN, hA⟩)) hq⟩
/-- an acknowledgement delivered -/
theorem ej_xack (hN : N ≤ 8) (hM : M ≤ 32) (ht : et_b t) (hr : et_b r) {s : Nat} (hs : s < M) (h3 : st s = 3) (hK : ej_K N M sd t r ac st se re nd ns (fun _ => False)) : ∃ (st' : Nat → Int32) (t' : Int32), et_b t' ∧ (t ≠ 0 → t' ≠ 0) ∧ ej_J N M sd t' r ac st' se re nd ns ∧ (∀ j, st' j = 1 ↔ st j = 1) ∧ ej_nf st M = ej_nf st' M + 1 ∧ (∀ post : Int32 → St2 → Prop, post 0 (nI N, nI M, sd, et_an t' r, nI h, tk, ac, sn, wd, nd, ns, st', se, re) → wpX_deliverAcknowledgement post (nI N, nI M, sd, et_an t r, nI h, tk, ac, sn, wd, nd, ns, st, se, re) (nI s)) := by
  have s0 : st s ≠ 0 := by rw [h3]; exact et_n30
  obtain ⟨⟨a, ha, ea⟩, -⟩ := hK.1.2.1 s hs s0
  obtain ⟨st', K', f1, f2, hX⟩ := ej_xhome (h := h) (tk := tk) (sn := sn) (wd := wd) hN hM ha (ej_ack hN hK ha hs h3 ea)
  obtain ⟨t', ht', tt, J', gX⟩ := ej_xrule (h := h) (tk := tk) (sn := sn) (wd := wd) hN hM ht hr K'
  have hc := nI_clamp (show s < 2 ^ 31 by omega)
  refine ⟨st', t', ht', tt, J', fun j => ?_, ?_, fun post hp => ?_⟩
  · rw [f1 j]
    by_cases e : j = s
    · subst e; rw [pk_us, h3]; exact ⟨fun z => absurd z (by decide), fun z => absurd z (by decide)⟩
    · rw [pk_un e]
  · rw [ej_nf_dn s0 M hs, ej_nf_c (f := st') (g := upd st s 0) M (fun j _ => f2 j)]
  · unfold wpX_deliverAcknowledgement
    refine ⟨vp_in_nI (by omega) (by decide), nm_r (by rw [hc]) ⟨vp_in_nI (by omega) (by decide), ?_⟩⟩
    rw [hc, ea]
    exact hX _ _ (gX _ hp)
end EMA
section EMB
/-- a state of the class that keeps the invariant; q: an announcement was seen -/
def ej_G (N M : Nat) (sd : Int32) (q : Prop) (u : St2) : Prop :=
  ∃ (h : Nat) (t r tk : Int32) (ac sn wd nd ns st se re : Nat → Int32), u = (nI N, nI M, sd, et_an t r, nI h, tk, ac, sn, wd, nd, ns, st, se, re) ∧ h < N ∧ et_b t ∧ et_b r ∧ ej_J N M sd t r ac st se re nd ns ∧ (q → t ≠ 0 ∨ r ≠ 0)
variable {N M h : Nat} {sd an t r tk : Int32} {ac sn wd nd ns st se re : Nat → Int32} {q : Prop}
theorem ej_GI (hh : h < N) (ht : et_b t) (hr : et_b r) (hJ : ej_J N M sd t r ac st se re nd ns) (hq : q → t ≠ 0 ∨ r ≠ 0) : ej_G N M sd q (nI N, nI M, sd, et_an t r, nI h, tk, ac, sn, wd, nd, ns, st, se, re) :=
  ⟨h, t, r, tk, ac, sn, wd, nd, ns, st, se, re, rfl, hh, ht, hr, hJ, hq⟩
theorem ej_ix (x : Int32) {n : Nat} (hn : n < 2 ^ 31) : (x < 0 ∨ nI n ≤ x) ∨ ∃ j : Nat, j < n ∧ x = nI j := by
  rcases pk_ix x hn with a | a | a
  · exact Or.inl (Or.inl a)
  · exact Or.inl (Or.inr a)
  · exact Or.inr a
theorem ej_mwork (hN : N ≤ 8) {u : St2} (g : ej_G N M sd q u) (x y : Int32) {post : Int32 → St2 → Prop} (hp : ∀ rr u', ej_G N M sd q u' → post rr u') : wpX_work post u x y := by
  obtain ⟨h, t, r, tk, ac, sn, wd, nd, ns, st, se, re, rfl, hh, ht, hr, hJ, hq⟩ := g
  unfold wpX_work
  rcases ej_ix x (n := N) (by omega) with hx | ⟨j, hj, rfl⟩
  · exact et_xP_f hx (br_t rfl (hp _ _ (ej_GI hh ht hr hJ hq)))
  · have hv : vp_in (nI j) 8 := vp_in_nI (by omega) (by decide)
    exact et_xP_t hN hj (br_f et_n10 ⟨hv, br_c (fun _ => hp _ _ (ej_GI hh ht hr hJ hq)) (fun _ => ⟨hv, hv, nm_e (hp _ _ (ej_GI hh ht hr hJ hq))⟩)⟩)
theorem ej_msend (hN : N ≤ 8) (hM : M ≤ 32) {u : St2} (g : ej_G N M sd q u) (x y : Int32) {post : Int32 → St2 → Prop} (hp : ∀ rr u', ej_G N M sd q u' → post rr u') : wpX_send post u x y := by
  obtain ⟨h, t, r, tk, ac, sn, wd, nd, ns, st, se, re, rfl, hh, ht, hr, hJ, hq⟩ := g
  unfold wpX_send
  rcases ej_ix x (n := N) (by omega) with hx | ⟨a, ha, rfl⟩
  · exact et_xP_f hx (br_t rfl (hp _ _ (ej_GI hh ht hr hJ hq)))
  · refine et_xP_t hN ha (br_f et_n10 ?_)
    rcases ej_ix y (n := N) (by omega) with hx | ⟨b, hb, rfl⟩
    · exact et_xP_f hx (br_t rfl (hp _ _ (ej_GI hh ht hr hJ hq)))
    · have hv : vp_in (nI a) 8 := vp_in_nI (by omega) (by decide)
      have hc := nI_clamp (show a < 2 ^ 31 by omega)
      refine et_xP_t hN hb (br_f et_n10 ⟨hv, br_c (fun _ => hp _ _ (ej_GI hh ht hr hJ hq)) (fun z => ?_)⟩)
      rw [hc] at z
      rcases et_first (fun j => st j = 0) M with h0 | ⟨s, hs, h0, hn⟩
      · exact et_xlow_n hM h0 (br_t rfl (hp _ _ (ej_GI hh ht hr hJ hq)))
      · have hvs : vp_in (nI s) 32 := vp_in_nI (by omega) (by decide)
        have hcs := nI_clamp (show s < 2 ^ 31 by omega)
        exact et_xlow_s hM hs h0 hn (br_f (et_m1 (by omega)) ⟨hvs, nm_r (by rw [hcs]) ⟨hvs, nm_r (by rw [hcs]) ⟨hvs, nm_r (by rw [hcs]) ⟨hv, hv, nm_r (by rw [hc]) (hp _ _ (ej_GI hh ht hr (ej_send hN hJ.1 ha hb hs h0 z) hq))⟩⟩⟩⟩)
theorem ej_mrest (hN : N ≤ 8) (hM : M ≤ 32) {u : St2} (g : ej_G N M sd q u) (x : Int32) {post : Int32 → St2 → Prop} (hp : ∀ rr u', ej_G N M sd q u' → post rr u') : wpX_rest post u x := by
  obtain ⟨h, t, r, tk, ac, sn, wd, nd, ns, st, se, re, rfl, hh, ht, hr, hJ, hq⟩ := g
  unfold wpX_rest
  rcases ej_ix x (n := N) (by omega) with hx | ⟨j, hj, rfl⟩
  · exact et_xP_f hx (br_t rfl (hp _ _ (ej_GI hh ht hr hJ hq)))
  · have hv : vp_in (nI j) 8 := vp_in_nI (by omega) (by decide)
    have hc := nI_clamp (show j < 2 ^ 31 by omega)
    refine et_xP_t hN hj (br_f et_n10 ⟨hv, br_c (fun _ => hp _ _ (ej_GI hh ht hr hJ hq)) (fun _ => ⟨hv, nm_r (e' := upd ac j 0) (by rw [hc]) ?_⟩)⟩)
    obtain ⟨st', K', -, -, hX⟩ := ej_xhome (h := h) (tk := tk) (sn := sn) (wd := wd) hN hM hj (ej_rest hJ.1 j)
    obtain ⟨t', ht', tt, J', gX⟩ := ej_xrule (h := h) (tk := tk) (sn := sn) (wd := wd) hN hM ht hr K'
    exact hX _ _ (gX _ (hp _ _ (ej_GI hh ht' hr J' (fun z => (hq z).imp tt id))))
theorem ej_mdeliver (hN : N ≤ 8) (hM : M ≤ 32) {u : St2} (g : ej_G N M sd q u) (x : Int32) {post : Int32 → St2 → Prop} (hp : ∀ rr u', ej_G N M sd q u' → post rr u') : wpX_deliver post u x := by
  obtain ⟨h, t, r, tk, ac, sn, wd, nd, ns, st, se, re, rfl, hh, ht, hr, hJ, hq⟩ := g
  unfold wpX_deliver
  rcases ej_ix x (n := M) (by omega) with hx | ⟨s, hs, rfl⟩
  · exact et_xS_f hx (br_t rfl (hp _ _ (ej_GI hh ht hr hJ hq)))
  · have hv : vp_in (nI s) 32 := vp_in_nI (by omega) (by decide)
    have hc := nI_clamp (show s < 2 ^ 31 by omega)
    refine et_xS_t hM hs (br_f et_n10 ⟨hv, br_c (fun g => ?_) (fun _ => ⟨hv, br_c (fun g => ?_) (fun _ => hp _ _ (ej_GI hh ht hr hJ hq))⟩)⟩)
    · rw [hc] at g
      have s0 : st s ≠ 0 := by rw [g]; exact et_n10
      obtain ⟨-, b, hb, eb⟩ := hJ.1.1.2.1 s hs s0
      have hvq : vp_in (nI b) 8 := vp_in_nI (by omega) (by decide)
      have hcq := nI_clamp (show b < 2 ^ 31 by omega)
      have key : ∀ c : Int32, ((c = 3 ∧ et_eng M sd t st re b) ∨ (c = 2 ∧ ¬ et_eng M sd t st re b)) → wX_deliverWork_25 post (nI s) (nI b) c (nI s) (nI N) (nI M) sd (et_an t r) (nI h) tk ac sn wd nd ns st se re := by
        intro c hc1
        exact ⟨hv, nm_r (e' := upd st s c) (by rw [hc]) ⟨hvq, nm_r (e' := upd ac b 1) (by rw [hcq]) ⟨hvq, nm_r (e' := upd sn b 1) (by rw [hcq]) ⟨hvq, hvq, nm_r (e' := upd nd b (nd b + 1)) (by rw [hcq]) ⟨hv, hp _ _ (ej_GI hh ht hr (ej_work hN ht hJ.1 hb hs g eb hc1) hq)⟩⟩⟩⟩⟩
      unfold wpX_deliverWork
      refine ⟨hv, nm_r (show re (nI s).toNatClampNeg = nI b by rw [hc]; exact eb) ?_⟩
      by_cases he : et_eng M sd t st re b
      · exact et_xeng_t hN hM hb ht hr he (br_f et_n10 (key 3 (Or.inl ⟨rfl, he⟩)))
      · exact et_xeng_f hN hM hb ht hr he (br_t rfl (key 2 (Or.inr ⟨rfl, he⟩)))
    · rw [hc] at g
      obtain ⟨st', t', ht', tt, J', -, -, hX⟩ := ej_xack (h := h) (tk := tk) (sn := sn) (wd := wd) hN hM ht hr hs g hJ.1
      exact hX _ (hp _ _ (ej_GI hh ht' hr J' (fun z => (hq z).imp tt id)))
theorem ej_mstart (hN0 : 2 ≤ N) (hN : N ≤ 8) {u : St2} (g : ej_G N M sd q u) {post : Int32 → St2 → Prop} (hp0 : ∀ u', ej_G N M 1 False u' → post 0 u') (hp1 : ∀ rr u', rr ≠ 0 → ej_G N M sd q u' → post rr u') : wpX_start post u := by
  obtain ⟨h, t, r, tk, ac, sn, wd, nd, ns, st, se, re, rfl, hh, ht, hr, hJ, hq⟩ := g
  have key : (sd = 0 ∨ t = 1) → ∃ n, wX_start_20 post (nI N) (nI M) sd (et_an t r) (nI h) tk n 0 ac sn wd nd ns st se re := by
    intro z
    have hF := (hJ.1.1.2.2.2.2 z).1
    refine ⟨N + 1, et_xst_l hN (hp0 _ (ej_GI (h := 0) (t := 0) (r := 0) (by omega) et_b0 et_b0 (ej_start hJ.1.1 (by omega) hF ?_ ?_ ?_ ?_) (fun y => absurd y id))) N 0 (by omega)⟩
    · rw [et_ca_at ac N (by omega), if_pos rfl]; exact et_n10
    · intro p hpN p0; rw [et_ca_at ac N hpN, if_neg p0]
    · exact fun p hpN => et_cl_at nd N hpN
    · exact fun p hpN => et_cl_at ns N hpN
  unfold wpX_start
  refine br_c (fun z => key (Or.inl z)) (fun z => br_c (fun y => key (Or.inr ?_)) (fun y => hp1 _ _ (by decide) (ej_GI hh ht hr hJ hq)))
  exact et_bn ht ((et_an3 ht hr).mp y).1
end EMB
end
section
section EMC
/-- how many passes of the token are still wanted in a quiet state: at most d -/
def ej_P (N d h : Nat) (r tk : Int32) (sn : Nat → Int32) : Prop :=
  r ≠ 0 ∨ h + 2 * N + 1 ≤ d ∨ ((∀ p, p < N → (p = 0 ∨ h < p) → sn p = 0) ∧ h + N + 1 ≤ d) ∨ ((∀ p, p < N → sn p = 0) ∧ tk = 0 ∧ h + 1 ≤ d)
variable {N M h : Nat} {sd t r tk : Int32} {ac sn wd nd ns st se re : Nat → Int32} {q : Prop}
theorem ej_xpass (hN0 : 2 ≤ N) (hN : N ≤ 8) (hM : M ≤ 32) (hh : h < N) (ht : et_b t) (hr : et_b r) (hJ : ej_J N M sd t r ac st se re nd ns) : ∃ (rr : Int32) (h' : Nat) (r' tk' : Int32) (sn' : Nat → Int32), h' < N ∧ et_b r' ∧ (r ≠ 0 → r' ≠ 0) ∧ ej_J N M sd t r' ac st se re nd ns ∧ (rr ≠ 0 → sd ≠ 0 → ej_q N M ac st → r' ≠ 0) ∧ (∀ d, rr = 0 → ej_q N M ac st → ej_P N (d + 1) h r tk sn → ej_P N d h' r' tk' sn') ∧ (∀ post : Int32 → St2 → Prop, post rr (nI N, nI M, sd, et_an t r', nI h', tk', ac, sn', wd, nd, ns, st, se, re) → wpX_passToken post (nI N, nI M, sd, et_an t r, nI h, tk, ac, sn, wd, nd, ns, st, se, re)) := by
  by_cases hsd : sd = 0
  · exact ⟨-4, h, r, tk, sn, hh, hr, id, hJ, fun _ z => absurd hsd z, fun _ z _ => absurd z (by decide), fun post hp => et_xp_ref ht hr (Or.inl hsd) hp⟩
  · by_cases hr0 : r = 0
    · by_cases ha : ac h = 0
      · by_cases h0 : h = 0
        · subst h0
          have eN : nI N - 1 = nI (N - 1) := by
            obtain ⟨m, rfl⟩ : ∃ m, N = m + 1 := ⟨N - 1, by omega⟩
            exact nI_pred m
          by_cases hz : tk = 0 ∧ (∀ p, p < N → sn p = 0) ∧ (∀ p, p < N → ac p = 0) ∧ (∀ j, j < M → st j ≠ 1)
          · obtain ⟨h1, h2, h3, h4⟩ := hz
            exact ⟨1, 0, 1, tk, sn, hh, et_b1, fun _ => et_n10, ej_ring hJ ⟨h3, h4⟩ 1, fun _ _ _ => et_n10, fun _ z _ => absurd z et_n10, fun post hp => et_xp_ring hN hM hh ht hr hsd hr0 h1 h2 h3 h4 hp⟩
          · have hx : tk ≠ 0 ∨ (∃ p, p < N ∧ sn p ≠ 0) ∨ (∃ p, p < N ∧ ac p ≠ 0) ∨ (∃ j, j < M ∧ st j = 1) := by
              by_cases h1 : tk = 0
              · rcases et_first (fun j => sn j ≠ 0) N with h2 | ⟨p, hpN, hA, -⟩
                · rcases et_first (fun j => ac j ≠ 0) N with h3 | ⟨p, hpN, hA, -⟩
                  · rcases et_first (fun j => st j = 1) M with h4 | ⟨p, hpN, hA, -⟩
                    · exact absurd ⟨h1, fun j hj => Decidable.not_not.mp (h2 j hj), fun j hj => Decidable.not_not.mp (h3 j hj), h4⟩ hz
                    · exact Or.inr (Or.inr (Or.inr ⟨p, hpN, hA⟩))
                  · exact Or.inr (Or.inr (Or.inl ⟨p, hpN, hA⟩))
                · exact Or.inr (Or.inl ⟨p, hpN, hA⟩)
              · exact Or.inl h1
            refine ⟨0, N - 1, r, 0, upd sn 0 0, by omega, hr, id, hJ, fun z => absurd rfl z, fun d _ hqq hP => ?_, fun post hp => ?_⟩
            · rcases hP with hP | hP | ⟨hP, hd⟩ | ⟨hP, hk, hd⟩
              · exact absurd hr0 hP
              · refine Or.inr (Or.inr (Or.inl ⟨fun p hpN hp => ?_, by omega⟩))
                rcases hp with hp | hp
                · subst hp; exact pk_us
                · omega
              · have hall : ∀ p, p < N → sn p = 0 := fun p hpN => hP p hpN (by omega)
                refine Or.inr (Or.inr (Or.inr ⟨fun p hpN => ?_, rfl, by omega⟩))
                by_cases e : p = 0
                · subst e; exact pk_us
                · rw [pk_un e]; exact hall p hpN
              · exact absurd ⟨hk, hP, hqq.1, hqq.2⟩ hz
            · rw [← eN] at hp
              exact et_xp_round hN hM ht hr hsd hr0 ha hx hp
        · obtain ⟨g, rfl⟩ : ∃ g, h = g + 1 := ⟨h - 1, by omega⟩
          refine ⟨0, g, r, (if sn (g + 1) = 0 then tk else 1), upd sn (g + 1) 0, by omega, hr, id, hJ, fun z => absurd rfl z, fun d _ hqq hP => ?_, fun post hp => et_xp_down ht hr (by omega) hsd hr0 ha hp⟩
          rcases hP with hP | hP | ⟨hP, hd⟩ | ⟨hP, hk, hd⟩
          · exact Or.inl hP
          · exact Or.inr (Or.inl (by omega))
          · refine Or.inr (Or.inr (Or.inl ⟨fun p hpN hp => ?_, by omega⟩))
            by_cases e : p = g + 1
            · subst e; exact pk_us
            · rw [pk_un e]; exact hP p hpN (by omega)
          · refine Or.inr (Or.inr (Or.inr ⟨fun p hpN => ?_, ?_, by omega⟩))
            · by_cases e : p = g + 1
              · subst e; exact pk_us
              · rw [pk_un e]; exact hP p hpN
            · rw [if_pos (hP (g + 1) hh)]; exact hk
      · exact ⟨-5, h, r, tk, sn, hh, hr, id, hJ, fun _ _ z => absurd (z.1 h hh) ha, fun _ z _ => absurd z (by decide), fun post hp => et_xp_busy ht hr (by omega) hsd hr0 ha hp⟩
    · exact ⟨-4, h, r, tk, sn, hh, hr, id, hJ, fun _ _ _ => hr0, fun _ z _ => absurd z (by decide), fun post hp => et_xp_ref ht hr (Or.inr hr0) hp⟩
end EMC
section EMD
variable {N M h : Nat} {sd t r tk : Int32} {ac sn wd nd ns st se re : Nat → Int32} {q : Prop}
theorem ej_mpass (hN0 : 2 ≤ N) (hN : N ≤ 8) (hM : M ≤ 32) {u : St2} (g : ej_G N M sd q u) {post : Int32 → St2 → Prop} (hp : ∀ rr u', ej_G N M sd q u' → post rr u') : wpX_passToken post u := by
  obtain ⟨h, t, r, tk, ac, sn, wd, nd, ns, st, se, re, rfl, hh, ht, hr, hJ, hq⟩ := g
  obtain ⟨rr, h', r', tk', sn', hh', hr', rt, J', -, -, hX⟩ := ej_xpass (tk := tk) (sn := sn) (wd := wd) hN0 hN hM hh ht hr hJ
  exact hX _ (hp _ _ (ej_GI hh' ht hr' J' (fun z => (hq z).imp id rt)))
theorem ej_3n (N : Nat) : (3 : Int32) * nI N = nI (3 * N) := pk_mul 3 N
/-- the second part of settle -/
theorem ej_set2 (hN0 : 2 ≤ N) (hN : N ≤ 8) (hM : M ≤ 32) (ht : et_b t) : ∀ (d i h : Nat) (r tk : Int32) (sn : Nat → Int32), i + d = 3 * N → h < N → et_b r → ej_J N M sd t r ac st se re nd ns → ∃ (h' : Nat) (r' tk' : Int32) (sn' : Nat → Int32), h' < N ∧ et_b r' ∧ (r ≠ 0 → r' ≠ 0) ∧ ej_J N M sd t r' ac st se re nd ns ∧ (sd ≠ 0 → ej_q N M ac st → ej_P N d h r tk sn → r' ≠ 0) ∧ (∀ post : Int32 → St2 → Prop, post (et_an t r') (nI N, nI M, sd, et_an t r', nI h', tk', ac, sn', wd, nd, ns, st, se, re) → wX_settle_45 post (nI (3 * N)) (d + 1) (nI i) (nI N) (nI M) sd (et_an t r) (nI h) tk ac sn wd nd ns st se re) := by
  intro d
  induction d with
  | zero =>
    intro i h r tk sn hi hh hr hJ
    refine ⟨h, r, tk, sn, hh, hr, id, hJ, fun _ _ hP => ?_, fun post hp => br_t (nI_le (by omega) (by omega)) hp⟩
    rcases hP with hP | hP | ⟨-, hP⟩ | ⟨-, -, hP⟩
    · exact hP
    · omega
    · omega
    · omega
  | succ d ih =>
    intro i h r tk sn hi hh hr hJ
    obtain ⟨rr, h1, r1, tk1, sn1, hh1, hr1, rt1, J1, q1, p1, hX⟩ := ej_xpass (tk := tk) (sn := sn) (wd := wd) hN0 hN hM hh ht hr hJ
    by_cases h0 : rr = 0
    · subst h0
      obtain ⟨h', r', tk', sn', hh', hr', rt', J', q', gX⟩ := ih (i + 1) h1 r1 tk1 sn1 (by omega) hh1 hr1 J1
      exact ⟨h', r', tk', sn', hh', hr', fun z => rt' (rt1 z), J', fun a b c => q' a b (p1 d rfl b c), fun post hp => br_f (nI_ge (by omega) (by omega)) (hX _ (br_t rfl (nm_r (nI_1 i) (gX post hp))))⟩
    · exact ⟨h1, r1, tk1, sn1, hh1, hr1, rt1, J1, fun a b _ => q1 h0 a b, fun post hp => br_f (nI_ge (by omega) (by omega)) (hX _ (br_f h0 hp))⟩
/-- the first part of settle -/
theorem ej_set1 (hN : N ≤ 8) (hM : M ≤ 32) (hr : et_b r) : ∀ (d i : Nat) (t : Int32) (st : Nat → Int32), i + d = M → et_b t → ej_J N M sd t r ac st se re nd ns → ∃ (t' : Int32) (st' : Nat → Int32), et_b t' ∧ (t ≠ 0 → t' ≠ 0) ∧ ej_J N M sd t' r ac st' se re nd ns ∧ (∀ j, st' j = 1 ↔ st j = 1) ∧ (ej_nf st M ≤ d → ∀ j, j < M → st' j ≠ 3) ∧ (∀ post : Int32 → St2 → Prop, (∃ n, wX_settle_45 post (nI (3 * N)) n 0 (nI N) (nI M) sd (et_an t' r) (nI h) tk ac sn wd nd ns st' se re) → wX_settle_2 post (d + 1) (nI i) (nI N) (nI M) sd (et_an t r) (nI h) tk ac sn wd nd ns st se re) := by
  intro d
  induction d with
  | zero =>
    intro i t st hi ht hJ
    refine ⟨t, st, ht, id, hJ, fun _ => Iff.rfl, fun hz j hj => ?_, fun post hp => br_t (nI_le (by omega) (by omega)) (nm_r (ej_3n N) hp)⟩
    rw [ej_nf_0 (st := st) M (by omega) j hj]; decide
  | succ d ih =>
    intro i t st hi ht hJ
    rcases et_first (fun j => st j = 3) M with h0 | ⟨s, hs, h3, hn⟩
    · exact ⟨t, st, ht, id, hJ, fun _ => Iff.rfl, fun _ => h0, fun post hp => br_f (nI_ge (by omega) (by omega)) (et_xlow_n hM h0 (br_t rfl (nm_r (ej_3n N) hp)))⟩
    · obtain ⟨st1, t1, ht1, tt1, J1, f1, n1, hX⟩ := ej_xack (h := h) (tk := tk) (sn := sn) (wd := wd) hN hM ht hr hs h3 hJ.1
      obtain ⟨t', st', ht', tt', J', f', n', gX⟩ := ih (i + 1) t1 st1 (by omega) ht1 J1
      exact ⟨t', st', ht', fun z => tt' (tt1 z), J', fun j => (f' j).trans (f1 j), fun z => n' (by omega), fun post hp => br_f (nI_ge (by omega) (by omega)) (et_xlow_s hM hs h3 hn (br_f (et_m1 (by omega)) (hX _ (nm_r (nI_1 i) (gX post hp)))))⟩
theorem ej_msettle (hN0 : 2 ≤ N) (hN : N ≤ 8) (hM : M ≤ 32) (hh : h < N) (ht : et_b t) (hr : et_b r) (hJ : ej_J N M sd t r ac st se re nd ns) (hq : q → t ≠ 0 ∨ r ≠ 0) {post : Int32 → St2 → Prop} (hp : ∀ rr u', ej_G N M sd q u' → (¬ ej_q N M ac st → rr = 0) → (ej_q N M ac st → sd ≠ 0 → rr = 3) → post rr u') : wpX_settle post (nI N, nI M, sd, et_an t r, nI h, tk, ac, sn, wd, nd, ns, st, se, re) := by
  obtain ⟨t1, st1, ht1, tt1, J1, f1, n1, hX⟩ := ej_set1 (h := h) (tk := tk) (sn := sn) (wd := wd) hN hM hr M 0 t st (by omega) ht hJ
  obtain ⟨h', r', tk', sn', hh', hr', rt', J', q', gX⟩ := ej_set2 (wd := wd) hN0 hN hM ht1 (3 * N) 0 h r tk sn (by omega) hh hr J1
  have eq : ej_q N M ac st1 ↔ ej_q N M ac st := by
    constructor
    · exact fun z => ⟨z.1, fun j hj e => z.2 j hj ((f1 j).mpr e)⟩
    · exact fun z => ⟨z.1, fun j hj e => z.2 j hj ((f1 j).mp e)⟩
  unfold wpX_settle
  refine ⟨M + 1, hX _ ⟨3 * N + 1, gX _ (hp _ _ (ej_GI hh' ht1 hr' J' (fun z => (hq z).imp tt1 rt')) (fun z => ?_) (fun z y => ?_))⟩⟩
  · have hr0 : r' = 0 := Decidable.not_not.mp (fun w => z (eq.mp (J'.1.2.2.2.2.1 w)))
    have ht0 : t1 = 0 := by
      rcases ht1 with w | w
      · exact w
      · have g := J'.1.1.2.2.2.2 (Or.inr w)
        exact absurd (eq.mp ⟨g.2, fun j hj e => by rw [g.1 j hj] at e; exact absurd e (by decide)⟩) z
    rw [hr0, ht0]; decide
  · have hq1 := eq.mpr z
    have ht1' : t1 = 1 := ej_done hN ht1 J1 hq1 (n1 (ej_nf_le st M)) y
    have hr1' : r' = 1 := et_bn hr' (q' y hq1 (Or.inr (Or.inl (by omega))))
    rw [ht1', hr1']; decide
end EMD
end
section
section ERA
variable {N M h : Nat} {sd an t r tk : Int32} {ac sn wd nd ns st se re : Nat → Int32} {post : Int32 → Prop}
theorem ej_rstate (hN : N ≤ 8) (hM : M ≤ 32) (ht : et_b t) (hr : et_b r) {p : Nat} (hp : p < N) : ∃ c : Int32, (c = 2 ↔ ac p ≠ 0) ∧ (c = 0 ↔ (ac p = 0 ∧ ¬ et_eng M sd t st re p)) ∧ ∀ post : Int32 → Prop, post c → wpX_state post (nI N, nI M, sd, et_an t r, nI h, tk, ac, sn, wd, nd, ns, st, se, re) (nI p) := by
  have hv : vp_in (nI p) 8 := vp_in_nI (by omega) (by decide)
  have hc := nI_clamp (show p < 2 ^ 31 by omega)
  by_cases ha : ac p = 0
  · by_cases he : et_eng M sd t st re p
    · refine ⟨1, ⟨fun z => absurd z (by decide), fun z => absurd ha z⟩, ⟨fun z => absurd z (by decide), fun z => absurd he z.2⟩, fun post hq => ?_⟩
      unfold wpX_state
      exact et_xP_t hN hp (br_f et_n10 ⟨hv, br_t (by rw [hc]; exact ha) (et_xeng_t hN hM hp ht hr he (br_f et_n10 hq))⟩)
    · refine ⟨0, ⟨fun z => absurd z (by decide), fun z => absurd ha z⟩, ⟨fun _ => ⟨ha, he⟩, fun _ => rfl⟩, fun post hq => ?_⟩
      unfold wpX_state
      exact et_xP_t hN hp (br_f et_n10 ⟨hv, br_t (by rw [hc]; exact ha) (et_xeng_f hN hM hp ht hr he (br_t rfl hq))⟩)
  · refine ⟨2, ⟨fun _ => ha, fun _ => rfl⟩, ⟨fun z => absurd z (by decide), fun z => absurd z.1 ha⟩, fun post hq => ?_⟩
    unfold wpX_state
    exact et_xP_t hN hp (br_f et_n10 ⟨hv, br_f (by rw [hc]; exact ha) hq⟩)
theorem ej_rstate_any (hN : N ≤ 8) (hM : M ≤ 32) (ht : et_b t) (hr : et_b r) {x : Int32} (hp : ∀ c, post c) : wpX_state post (nI N, nI M, sd, et_an t r, nI h, tk, ac, sn, wd, nd, ns, st, se, re) x := by
  rcases ej_ix x (n := N) (by omega) with hx | ⟨j, hj, rfl⟩
  · unfold wpX_state
    exact et_xP_f hx (br_t rfl (hp _))
  · obtain ⟨c, -, -, H⟩ := ej_rstate (h := h) (sd := sd) (tk := tk) (ac := ac) (sn := sn) (wd := wd) (nd := nd) (ns := ns) (st := st) (se := se) (re := re) hN hM ht hr hj
    exact H post (hp c)
theorem ej_nv : ∀ s, s < 4 → ∀ a, a < 8 → ∀ b, b < 8 → (nI s * 64 + nI a * 8 + nI b) / 64 = nI s := by decide +kernel
theorem ej_rnote (hN : N ≤ 8) (hM : M ≤ 32) (I : et_Inv N M sd t ac st se re) {j : Nat} (hj : j < M) : ∃ c : Int32, (c / 64 = 1 ↔ st j = 1) ∧ (st j = 0 → c = 0) ∧ ∀ post : Int32 → Prop, post c → wpX_note post (nI N, nI M, sd, an, nI h, tk, ac, sn, wd, nd, ns, st, se, re) (nI j) := by
  have hv : vp_in (nI j) 32 := vp_in_nI (by omega) (by decide)
  have hc := nI_clamp (show j < 2 ^ 31 by omega)
  by_cases h0 : st j = 0
  · refine ⟨0, ⟨fun z => absurd z (by decide), fun z => absurd (h0.symm.trans z) (by decide)⟩, fun _ => rfl, fun post hq => ?_⟩
    unfold wpX_note
    exact et_xS_t hM hj (br_f et_n10 ⟨hv, br_t (by rw [hc]; exact h0) hq⟩)
  · obtain ⟨⟨a, ha, ea⟩, ⟨b, hb, eb⟩⟩ := I.2.1 j hj h0
    have hs : ∃ s, s < 4 ∧ st j = nI s := by
      rcases I.1 j hj with z | z | z | z
      · exact ⟨0, by decide, z⟩
      · exact ⟨1, by decide, z⟩
      · exact ⟨2, by decide, z⟩
      · exact ⟨3, by decide, z⟩
    obtain ⟨s, hs4, es⟩ := hs
    have e : (st j * 64 + se j * 8 + re j) / 64 = st j := by
      rw [ea, eb, es]; exact ej_nv s hs4 a (by omega) b (by omega)
    refine ⟨st j * 64 + se j * 8 + re j, by rw [e], fun z => absurd z h0, fun post hq => ?_⟩
    unfold wpX_note
    refine et_xS_t hM hj (br_f et_n10 ⟨hv, br_f (by rw [hc]; exact h0) ⟨hv, hv, hv, ?_⟩⟩)
    rw [hc]; exact hq
theorem ej_rnote_any (hM : M ≤ 32) {x : Int32} (hp : ∀ c, post c) : wpX_note post (nI N, nI M, sd, an, nI h, tk, ac, sn, wd, nd, ns, st, se, re) x := by
  unfold wpX_note
  rcases ej_ix x (n := M) (by omega) with hx | ⟨j, hj, rfl⟩
  · exact et_xS_f hx (br_t rfl (hp _))
  · have hv : vp_in (nI j) 32 := vp_in_nI (by omega) (by decide)
    exact et_xS_t hM hj (br_f et_n10 ⟨hv, br_c (fun _ => hp _) (fun _ => ⟨hv, hv, hv, hp _⟩)⟩)
theorem ej_rt0 (hN : N ≤ 8) {p : Nat} (hp : p < N) (hq : post (wd p)) : wpX_tally post (nI N, nI M, sd, an, nI h, tk, ac, sn, wd, nd, ns, st, se, re) (nI p) 0 := by
  unfold wpX_tally
  refine et_xP_t hN hp (br_f et_n10 (br_f (by decide) (br_f (by decide) (br_t rfl ⟨vp_in_nI (by omega) (by decide), ?_⟩))))
  rw [nI_clamp (by omega)]; exact hq
theorem ej_rt1 (hN : N ≤ 8) {p : Nat} (hp : p < N) (hq : post (nd p)) : wpX_tally post (nI N, nI M, sd, an, nI h, tk, ac, sn, wd, nd, ns, st, se, re) (nI p) 1 := by
  unfold wpX_tally
  refine et_xP_t hN hp (br_f et_n10 (br_f (by decide) (br_f (by decide) (br_f (by decide) (br_t rfl ⟨vp_in_nI (by omega) (by decide), ?_⟩)))))
  rw [nI_clamp (by omega)]; exact hq
theorem ej_rt2 (hN : N ≤ 8) {p : Nat} (hp : p < N) (hq : post (ns p)) : wpX_tally post (nI N, nI M, sd, an, nI h, tk, ac, sn, wd, nd, ns, st, se, re) (nI p) 2 := by
  unfold wpX_tally
  refine et_xP_t hN hp (br_f et_n10 (br_f (by decide) (br_f (by decide) (br_f (by decide) (br_f (by decide) (br_t rfl ⟨vp_in_nI (by omega) (by decide), ?_⟩))))))
  rw [nI_clamp (by omega)]; exact hq
theorem ej_rres0 (hN : N ≤ 8) (ht : et_b t) (hr : et_b r) (h0 : t ≠ 0) (hp : post (et_sm wd N)) : wpX_result post (nI N, nI M, sd, et_an t r, nI h, tk, ac, sn, wd, nd, ns, st, se, re) 0 := by
  unfold wpX_result
  exact br_t rfl (et_xA_t (fun z => h0 ((et_an1 ht hr).mp z)) (br_f et_n10 (et_xsmW hN hp)))
theorem ej_rres2 (hN : N ≤ 8) (ht : et_b t) (hr : et_b r) (h0 : r ≠ 0) (hp : post (et_sm nd N)) : wpX_result post (nI N, nI M, sd, et_an t r, nI h, tk, ac, sn, wd, nd, ns, st, se, re) 2 := by
  unfold wpX_result
  refine br_f (by decide) ?_
  unfold wX_result_21
  refine br_f (by decide) ?_
  unfold wX_result_39
  exact br_t rfl (et_xA_t (fun z => h0 ((et_an2 ht hr).mp z)) (br_f et_n10 (et_xsmD hN hp)))
theorem ej_rpar {x : Int32} {s : Nat} (hM : M ≤ 32) (hs : s < M) (h2 : st s = 2) (hx : re s = x) (hn : ∀ j, j < s → ¬ (st j = 2 ∧ re j = x)) (hp : post (se s)) : wpX_parent post (nI N, nI M, sd, an, nI h, tk, ac, sn, wd, nd, ns, st, se, re) x := by
  unfold wpX_parent
  refine et_xheld_s hM hs h2 hx hn (br_f (et_m1 (by omega)) ⟨vp_in_nI (by omega) (by decide), ?_⟩)
  rw [nI_clamp (by omega)]; exact hp
theorem ej_rdef {p : Nat} (hN : N ≤ 8) (hM : M ≤ 32) (hpN : p < N) (hp : post (nI (et_cn st se (nI p) M))) : wpX_deficit post (nI N, nI M, sd, an, nI h, tk, ac, sn, wd, nd, ns, st, se, re) (nI p) := by
  unfold wpX_deficit
  exact et_xP_t hN hpN (br_f et_n10 (et_xun hM hp))
end ERA
end
section
section ELA
/-- what the law's loop asks of its next turn, for every state that keeps the invariant -/
def ej_HJ (N M L i : Nat) (J : Int32 → Int32 → Int32 → Int32 → Int32 → Int32 → Int32 → Int32 → Int32 → Int32 → Int32 → Int32 → Int32 → Int32 → Int32 → (Nat → Int32) → (Nat → Int32) → (Nat → Int32) → (Nat → Int32) → (Nat → Int32) → (Nat → Int32) → (Nat → Int32) → (Nat → Int32) → Prop) : Prop :=
  ∀ (sd x7 x8 x10 x11 x12 x13 : Int32) (kk h : Nat) (t r tk : Int32) (ac sn wd nd ns st se re : Nat → Int32), kk ≤ L + 2 → h < N → et_b t → et_b r → ej_J N M sd t r ac st se re nd ns → (x7 ≠ 0 → t ≠ 0 ∨ r ≠ 0) → J sd x7 x8 (nI kk) x10 x11 x12 x13 (nI i) (nI N) (nI M) sd (et_an t r) (nI h) tk ac sn wd nd ns st se re
variable {N M h L i kk : Nat} {sd an t r tk : Int32} {ac sn wd nd ns st se re xs : Nat → Int32} {post : Int32 → Prop} {J : Int32 → Int32 → Int32 → Int32 → Int32 → Int32 → Int32 → Int32 → Int32 → Int32 → Int32 → Int32 → Int32 → Int32 → Int32 → (Nat → Int32) → (Nat → Int32) → (Nat → Int32) → (Nat → Int32) → (Nat → Int32) → (Nat → Int32) → (Nat → Int32) → (Nat → Int32) → Prop} {kc ks : Nat}
theorem ej_next (HJ : ej_HJ N M L (i + 1) J) {x7 x8 x10 x11 x12 x13 : Int32} (hk : kk ≤ L + 2) {u : St2} (g : ej_G N M sd (x7 ≠ 0) u) : match u with | (f1, f2, f3, f4, f5, f6, b1, b2, b3, b4, b5, b6, b7, b8) => ∀ y : Int32, y = nI i + 1 → J sd x7 x8 (nI kk) x10 x11 x12 x13 y f1 f2 f3 f4 f5 f6 b1 b2 b3 b4 b5 b6 b7 b8 := by
  obtain ⟨h, t, r, tk, ac, sn, wd, nd, ns, st, se, re, rfl, hh, ht, hr, hJ, hq⟩ := g
  exact nm_r (nI_1 i) (HJ sd x7 x8 x10 x11 x12 x13 kk h t r tk ac sn wd nd ns st se re hk hh ht hr hJ hq)
/-- the calls -/
theorem ej_965 (hN0 : 2 ≤ N) (hN : N ≤ 8) (hM : M ≤ 32) (HJ : ej_HJ N M L (i + 1) J) (hk : kk ≤ L + 2) (hh : h < N) (ht : et_b t) (hr : et_b r) (hJ : ej_J N M sd t r ac st se re nd ns) {x7 x17 : Int32} (hq : x7 ≠ 0 → t ≠ 0 ∨ r ≠ 0) (h17 : x17 = 0 ↔ ej_q N M ac st) (x8 x10 x11 x12 x13 x14 x26 x27 x28 : Int32) :
    wL_law_965 post L xs J (nI N) (nI M) sd x7 x8 (nI kk) x10 x11 x12 x13 x14 (nI i) x17 x26 x27 x28 kc ks (nI N) (nI M) sd (et_an t r) (nI h) tk ac sn wd nd ns st se re := by
  have g : ej_G N M sd (x7 ≠ 0) (nI N, nI M, sd, et_an t r, nI h, tk, ac, sn, wd, nd, ns, st, se, re) := ej_GI hh ht hr hJ hq
  unfold wL_law_965
  refine br_c (fun _ => ?_) (fun _ => br_c (fun _ => ?_) (fun _ => br_c (fun _ => ?_) (fun _ => br_c (fun _ => ?_) (fun _ => br_c (fun _ => ?_) (fun _ => br_c (fun _ => ?_) (fun _ => ?_))))))
  · refine ej_mstart hN0 hN g (fun u' g' => ?_) (fun rr u' hrr g' => ?_)
    · obtain ⟨h, t, r, tk, ac, sn, wd, nd, ns, st, se, re, rfl, hh, ht, hr, hJ, hq⟩ := g'
      exact br_t rfl (nm_r (nI_1 i) (HJ _ _ _ _ _ _ _ _ _ _ _ _ _ _ _ _ _ _ _ _ hk hh ht hr hJ (fun z => absurd rfl z)))
    · obtain ⟨h, t, r, tk, ac, sn, wd, nd, ns, st, se, re, rfl, hh, ht, hr, hJ, hq⟩ := g'
      exact br_f hrr (nm_r (nI_1 i) (HJ _ _ _ _ _ _ _ _ _ _ _ _ _ _ _ _ _ _ _ _ hk hh ht hr hJ hq))
  · exact ej_msend hN hM g _ _ (fun rr u' g' => ej_next HJ hk g')
  · exact ej_mdeliver hN hM g _ (fun rr u' g' => ej_next HJ hk g')
  · exact ej_mrest hN hM g _ (fun rr u' g' => ej_next HJ hk g')
  · exact ej_mwork hN g _ _ (fun rr u' g' => ej_next HJ hk g')
  · exact ej_mpass hN0 hN hM g (fun rr u' g' => ej_next HJ hk g')
  · refine ej_msettle hN0 hN hM hh ht hr hJ hq (fun rr u' g' e0 e3 => ?_)
    obtain ⟨h, t, r, tk, ac, sn, wd, nd, ns, st, se, re, rfl, hh, ht, hr, hJ, hq⟩ := g'
    have hn := nm_r (P := fun y => J sd x7 x8 (nI kk) x10 x11 x12 x13 y (nI N) (nI M) sd (et_an t r) (nI h) tk ac sn wd nd ns st se re) (nI_1 i) (HJ _ _ _ _ _ _ _ _ _ _ _ _ _ _ _ _ _ _ _ _ hk hh ht hr hJ hq)
    exact br_c (fun z => br_c (fun _ => hn) (fun y => br_t (e3 (h17.mp z) y) hn)) (fun z => br_t (e0 (fun y => z (h17.mpr y))) hn)
/-- the choice of the call, from its end backwards: H holds for every call -/
theorem ej_737 {x3 x4 x6 x7 x8 x9 x11 x12 x13 x14 x15 x17 x27 : Int32} (H : ∀ x10 x26 x27 x28, wL_law_965 post L xs J x3 x4 x6 x7 x8 x9 x10 x11 x12 x13 x14 x15 x17 x26 x27 x28 kc ks (nI N) (nI M) sd an (nI h) tk ac sn wd nd ns st se re) (x10 x23 x28 z0 : Int32) : wL_law_737 post L xs J x3 x4 x6 x7 x8 x9 x10 x11 x12 x13 x14 x15 x17 x23 x27 x28 z0 kc ks (nI N) (nI M) sd an (nI h) tk ac sn wd nd ns st se re := by
  unfold wL_law_737
  refine nm_e (br_c (fun _ => H _ _ _ _) (fun _ => br_c (fun _ => H _ _ _ _) (fun _ => br_c (fun _ => H _ _ _ _) (fun _ => br_c (fun _ => br_c (fun _ => H _ _ _ _) (fun _ => H _ _ _ _)) (fun _ => H _ _ _ _)))))
theorem ej_n2 {n : Nat} (h : n ≤ 32) : ¬ nI n + 2 = 0 := by
  have e : nI n + 2 = nI (n + 2) := nI_add n 2
  rw [e]; exact nI_ne0 (by omega) (by omega)
theorem ej_701 (hN : N ≤ 8) (hM : M ≤ 32) {x6 x7 x8 x9 x11 x12 x13 x14 x15 x17 : Int32} (H : ∀ x10 x26 x27 x28, wL_law_965 post L xs J (nI N) (nI M) x6 x7 x8 x9 x10 x11 x12 x13 x14 x15 x17 x26 x27 x28 kc ks (nI N) (nI M) sd an (nI h) tk ac sn wd nd ns st se re) (x10 x22 x23 x24 x25 x26 x27 x28 z0 : Int32) : wL_law_701 post L xs J (nI N) (nI M) x6 x7 x8 x9 x10 x11 x12 x13 x14 x15 x17 x22 x23 x24 x25 x26 x27 x28 z0 kc ks (nI N) (nI M) sd an (nI h) tk ac sn wd nd ns st se re := by
  have hn2 : ¬ nI N + 2 = 0 := ej_n2 (by omega)
  have hm2 : ¬ nI M + 2 = 0 := ej_n2 hM
  unfold wL_law_701
  refine br_c (fun _ => H _ _ _ _) (fun _ => br_c (fun _ => br_c (fun _ => ej_737 H _ _ _ _) (fun _ => ej_737 H _ _ _ _)) (fun _ => br_c (fun _ => ?_) (fun _ => ⟨by decide, br_c (fun _ => ?_) (fun _ => ⟨by decide, br_c (fun _ => ?_) (fun _ => ?_)⟩)⟩)))
  · exact ⟨by decide, nm_e ⟨by decide, hn2, nm_e (br_c (fun _ => ⟨hm2, H _ _ _ _⟩) (fun _ => ⟨hn2, H _ _ _ _⟩))⟩⟩
  · exact br_c (fun _ => H _ _ _ _) (fun _ => H _ _ _ _)
  · exact br_c (fun _ => H _ _ _ _) (fun _ => H _ _ _ _)
  · have h9 : ∀ x29, wL_law_909 post L xs J (nI N) (nI M) x6 x7 x8 x9 x10 x11 x12 x13 x14 x15 x17 x23 x27 x28 x29 kc ks (nI N) (nI M) sd an (nI h) tk ac sn wd nd ns st se re := fun x29 => by
      unfold wL_law_909
      exact br_c (fun _ => H _ _ _ _) (fun _ => H _ _ _ _)
    have h3 : ∀ x29, wL_law_939 post L xs J (nI N) (nI M) x6 x7 x8 x9 x10 x11 x12 x13 x14 x15 x17 x23 x27 x28 x29 kc ks (nI N) (nI M) sd an (nI h) tk ac sn wd nd ns st se re := fun x29 => by
      unfold wL_law_939
      exact br_c (fun _ => H _ _ _ _) (fun _ => H _ _ _ _)
    exact br_c (fun _ => h9 _) (fun _ => br_c (fun _ => h9 _) (fun _ => br_c (fun _ => h3 _) (fun _ => br_c (fun _ => h3 _) (fun _ => br_c (fun _ => H _ _ _ _) (fun _ => H _ _ _ _)))))
theorem ej_598 (hN0 : 2 ≤ N) (hN : N ≤ 8) (hM0 : 8 ≤ M) (hM : M ≤ 32) {x6 x7 x8 x9 x10 x11 x12 x13 x14 x15 x16 x17 x22 x23 : Int32} (H : ∀ x10 x26 x27 x28, wL_law_965 post L xs J (nI N) (nI M) x6 x7 x8 x9 x10 x11 x12 x13 x14 x15 x17 x26 x27 x28 kc ks (nI N) (nI M) sd an (nI h) tk ac sn wd nd ns st se re) : ∀ d i (x24 x25 : Int32), i + d = M → wL_law_598 post L xs J (nI N) (nI M) x6 x7 x8 x9 x10 x11 x12 x13 x14 x15 x16 x17 x22 x23 kc ks (nI N) (nI M) sd an (nI h) tk ac sn wd nd ns st se re (d + 1) x24 x25 (nI i) := by
  have hn0 : ¬ nI N = 0 := nI_ne0 (by omega) (by omega)
  have hm0 : ¬ nI M = 0 := nI_ne0 (by omega) (by omega)
  intro d
  induction d with
  | zero =>
    intro i x24 x25 hi
    exact br_t (nI_le (by omega) (by omega)) ⟨hn0, nm_e (br_c (fun _ => ej_701 hN hM H _ _ _ _ _ _ _ _ _) (fun _ => br_c (fun _ => ej_701 hN hM H _ _ _ _ _ _ _ _ _) (fun _ => ej_701 hN hM H _ _ _ _ _ _ _ _ _)))⟩
  | succ d ih =>
    intro i x24 x25 hi
    have h6 : ∀ x24 x25 x27 x28, wL_law_645 post L xs J (wL_law_598 post L xs J (nI N) (nI M) x6 x7 x8 x9 x10 x11 x12 x13 x14 x15 x16 x17 x22 x23 kc ks (nI N) (nI M) sd an (nI h) tk ac sn wd nd ns st se re (d + 1)) (nI N) (nI M) x6 x7 x8 x9 x10 x11 x12 x13 x14 x15 x16 x17 x22 x23 x24 x25 (nI i) x27 x28 kc ks (nI N) (nI M) sd an (nI h) tk ac sn wd nd ns st se re := fun x24 x25 x27 x28 => by
      unfold wL_law_645
      exact br_c (fun _ => nm_r (nI_1 i) (ih _ _ _ (by omega))) (fun _ => br_c (fun _ => nm_r (nI_1 i) (ih _ _ _ (by omega))) (fun _ => br_c (fun _ => nm_r (nI_1 i) (ih _ _ _ (by omega))) (fun _ => nm_r (nI_1 i) (ih _ _ _ (by omega)))))
    exact br_f (nI_ge (by omega) (by omega)) ⟨hm0, nm_e (ej_rnote_any hM (fun c => ⟨by decide, nm_e (br_c (fun _ => h6 _ _ _ _) (fun _ => br_c (fun _ => h6 _ _ _ _) (fun _ => h6 _ _ _ _)))⟩))⟩
theorem ej_551 (hN0 : 2 ≤ N) (hN : N ≤ 8) (hM0 : 8 ≤ M) (hM : M ≤ 32) (ht : et_b t) (hr : et_b r) {x6 x7 x8 x9 x10 x11 x12 x13 x14 x15 x16 x17 x22 x24 x25 : Int32} (H : ∀ x10 x26 x27 x28, wL_law_965 post L xs J (nI N) (nI M) x6 x7 x8 x9 x10 x11 x12 x13 x14 x15 x17 x26 x27 x28 kc ks (nI N) (nI M) sd (et_an t r) (nI h) tk ac sn wd nd ns st se re) : ∀ d i (x23 : Int32), i + d = N → wL_law_551 post L xs J (nI N) (nI M) x6 x7 x8 x9 x10 x11 x12 x13 x14 x15 x16 x17 x22 x24 x25 kc ks (nI N) (nI M) sd (et_an t r) (nI h) tk ac sn wd nd ns st se re (d + 1) x23 (nI i) := by
  have hn0 : ¬ nI N = 0 := nI_ne0 (by omega) (by omega)
  intro d
  induction d with
  | zero =>
    intro i x23 hi
    exact br_t (nI_le (by omega) (by omega)) ⟨M + 1, ej_598 hN0 hN hM0 hM H M 0 _ _ (by omega)⟩
  | succ d ih =>
    intro i x23 hi
    exact br_f (nI_ge (by omega) (by omega)) ⟨hn0, nm_e (br_c (fun _ => nm_r (nI_1 i) (ih _ _ (by omega))) (fun _ => ej_rstate_any hN hM ht hr (fun c => br_c (fun _ => nm_r (nI_1 i) (ih _ _ (by omega))) (fun _ => nm_r (nI_1 i) (ih _ _ (by omega))))))⟩
theorem ej_cell {post : Int32 → Prop} {x : Int32} (hL : L ≤ 260) (j : Nat) (hj : j ≤ L + 4) (e : x = nI j) (hp : ∀ c, post c) : wpL_cell post L xs () x := by
  subst e
  refine br_c (fun _ => hp _) (fun z => ⟨vp_in_nI ?_ (by omega), hp _⟩)
  rcases Nat.lt_or_ge j L with y | y
  · exact y
  · exact absurd (nI_le y (by omega)) z
/-- the next operation is read -/
theorem ej_421 (hL : L ≤ 260) (hN0 : 2 ≤ N) (hN : N ≤ 8) (hM0 : 8 ≤ M) (hM : M ≤ 32) (ht : et_b t) (hr : et_b r) (hp1 : post 1) {x6 x7 x14 x15 x16 x17 : Int32} (H : ∀ (x8 x10 x11 x12 x13 x26 x27 x28 : Int32) (kk : Nat), kk ≤ L + 2 → wL_law_965 post L xs J (nI N) (nI M) x6 x7 x8 (nI kk) x10 x11 x12 x13 x14 x15 x17 x26 x27 x28 kc ks (nI N) (nI M) sd (et_an t r) (nI h) tk ac sn wd nd ns st se re) (hk : kk ≤ L + 2) (x8 x10 x11 x12 x13 : Int32) : wL_law_421 post L xs J (nI N) (nI M) x6 x7 x8 (nI kk) x10 x11 x12 x13 x14 x15 x16 x17 kc ks (nI N) (nI M) sd (et_an t r) (nI h) tk ac sn wd nd ns st se re := by
  have h5 : ∀ (kk : Nat) (x8 x10 x11 x12 x13 x22 : Int32), kk ≤ L + 2 → wL_law_539 post L xs J (nI N) (nI M) x6 x7 x8 (nI kk) x10 x11 x12 x13 x14 x15 x16 x17 x22 kc ks (nI N) (nI M) sd (et_an t r) (nI h) tk ac sn wd nd ns st se re := fun kk x8 x10 x11 x12 x13 x22 hk =>
    ⟨N + 1, ej_551 hN0 hN hM0 hM ht hr (fun a b c d => H _ _ _ _ _ _ _ _ _ hk) N 0 _ (by omega)⟩
  unfold wL_law_421
  refine br_c (fun _ => br_c (fun _ => br_c (fun _ => ?_) (fun _ => hp1)) (fun z => ?_)) (fun _ => h5 _ _ _ _ _ _ _ hk)
  · exact ej_cell hL 0 (by omega) rfl (fun c => nm_e (ej_cell hL 1 (by omega) rfl (fun c => nm_e (h5 _ _ _ _ _ _ _ hk))))
  · have hkL : kk < L := by
      rcases Nat.lt_or_ge kk L with y | y
      · exact y
      · exact absurd (nI_le y (by omega)) z
    refine ej_cell hL kk (by omega) rfl (fun c => ⟨by decide, nm_e (ej_cell hL (kk + 1) (by omega) (nI_1 kk) (fun c => nm_e (ej_cell hL (kk + 2) (by omega) (nI_add kk 2) (fun c => nm_e (nm_r (nI_add kk 3) ?_)))))⟩)
    exact br_c (fun _ => h5 _ _ _ _ _ _ _ (by omega)) (fun _ => h5 _ _ _ _ _ _ _ (by omega))
end ELA
end
section
section EKA
variable {N M h L i : Nat} {sd an t r tk : Int32} {ac sn wd nd ns st se re xs : Nat → Int32} {post : Int32 → Prop} {J : Int32 → Int32 → Int32 → Int32 → Int32 → Int32 → Int32 → Int32 → Int32 → Int32 → Int32 → Int32 → Int32 → Int32 → Int32 → (Nat → Int32) → (Nat → Int32) → (Nat → Int32) → (Nat → Int32) → (Nat → Int32) → (Nat → Int32) → (Nat → Int32) → (Nat → Int32) → Prop} {kc ks : Nat} {x6 x7 x8 x9 x10 x11 x12 x13 x14 x15 x16 x17 x18 x19 x20 x21 : Int32}
/-- RING: both sums -/
theorem ej_390 (hN : N ≤ 8) (ht : et_b t) (hr : et_b r) (hJ : ej_J N M sd t r ac st se re nd ns) (e20 : x20 = et_sm nd N) (e21 : x21 = et_sm ns N) (H : wL_law_421 post L xs J (nI N) (nI M) x6 x7 x8 x9 x10 x11 x12 x13 x14 x15 (et_an t r) x17 kc ks (nI N) (nI M) sd (et_an t r) (nI h) tk ac sn wd nd ns st se re) : wL_law_390 post L xs J (nI N) (nI M) x6 x7 x8 x9 x10 x11 x12 x13 x14 x15 (et_an t r) x17 x20 x21 kc ks (nI N) (nI M) sd (et_an t r) (nI h) tk ac sn wd nd ns st se re := by
  unfold wL_law_390
  refine br_c (fun _ => H) (fun z => ?_)
  have hr0 : r ≠ 0 := fun y => z ((et_an2 ht hr).mpr y)
  have hq := hJ.1.2.2.2.2.1 hr0
  have e : et_sm nd N = x21 := by
    rw [e21, hJ.1.2.2.2.2.2.2, ej_fly_0 M hq.2]
    exact (Int32.add_zero _).symm
  exact ej_rres2 hN ht hr hr0 (br_t e20.symm (ej_rres2 hN ht hr hr0 (br_t e H)))
/-- the way up the tree from a process a -/
theorem ej_336 (hN0 : 2 ≤ N) (hN : N ≤ 8) (hM : M ≤ 32) (hK : ej_K N M sd t r ac st se re nd ns (fun _ => False)) {ts : Nat → Nat} (hts : ∀ j, j < M → st j = 2 → ∀ a b, a < N → b < N → a ≠ 0 → se j = nI a → re j = nI b → ts a < ts b) {J3 : Int32 → Prop} {p : Nat} (HK : J3 (nI (p + 1))) : ∀ d i a, i + d = N - 1 → a < N → (a ≠ 0 → (∃ j, j < M ∧ st j = 2 ∧ re j = nI a) ∧ ej_lt ts (ts a) N + 1 ≤ d) → wL_law_336 post L xs J J3 (nI N) (nI M) x6 x7 x8 x9 x10 x11 x12 x13 x14 x15 x16 x17 x20 x21 (nI p) kc ks (nI N) (nI M) sd an (nI h) tk ac sn wd nd ns st se re (d + 1) (nI a) (nI i) := by
  have eN : nI N - 1 = nI (N - 1) := by
    obtain ⟨m, rfl⟩ : ∃ m, N = m + 1 := ⟨N - 1, by omega⟩
    exact nI_pred m
  have h0 : wL_law_377 post L xs J J3 (nI N) (nI M) x6 x7 x8 x9 x10 x11 x12 x13 x14 x15 x16 x17 x20 x21 (nI p) (nI 0) kc ks (nI N) (nI M) sd an (nI h) tk ac sn wd nd ns st se re := by
    unfold wL_law_377
    exact br_t nI_0 (nm_r (nI_1 p) HK)
  intro d
  induction d with
  | zero =>
    intro i a hi ha hx
    have a0 : a = 0 := by
      rcases Nat.eq_zero_or_pos a with z | z
      · exact z
      · have := (hx (by omega)).2; omega
    subst a0
    refine br_t ?_ h0
    rw [eN]; exact nI_le (by omega) (by omega)
  | succ d ih =>
    intro i a hi ha hx
    have hle : ¬ nI N - 1 ≤ nI i := by rw [eN]; exact nI_ge (by omega) (by omega)
    refine br_f hle ?_
    by_cases a0 : a = 0
    · subst a0; exact br_t nI_0 h0
    · obtain ⟨⟨j, hj, j2, jr⟩, hd⟩ := hx a0
      refine br_f (nI_ne0 (Nat.pos_of_ne_zero a0) (by omega)) ?_
      rcases et_first (fun j => st j = 2 ∧ re j = nI a) M with g0 | ⟨s, hs, ⟨g2, gr⟩, gn⟩
      · exact absurd ⟨j2, jr⟩ (g0 j hj)
      · have s0 : st s ≠ 0 := by rw [g2]; exact et_n20
        obtain ⟨⟨b, hb, eb⟩, -⟩ := hK.1.2.1 s hs s0
        refine ej_rpar hM hs g2 gr gn ?_
        rw [eb]
        refine ej_rdef hN hM hb (br_t ?_ (nm_r (nI_1 i) (ih (i + 1) b (by omega) hb (fun b0 => ⟨?_, ?_⟩))))
        · have := ej_cnp s0 eb M hs
          exact nI_le (a := 1) (by omega) (by have := et_cn_le st se (nI b) M; omega)
        · rcases hK.2.1 s hs s0 b hb eb with z | z
          · exact absurd z.1 b0
          · exact z.2
        · have := ej_lt_strict ts b0 (Nat.le_refl (ts b)) (hts s hs g2 b a hb ha b0 eb gr) N hb
          omega
theorem ej_313 (hN0 : 2 ≤ N) (hN : N ≤ 8) (hM : M ≤ 32) (ht : et_b t) (hr : et_b r) (hK : ej_K N M sd t r ac st se re nd ns (fun _ => False)) (H : wL_law_390 post L xs J (nI N) (nI M) x6 x7 x8 x9 x10 x11 x12 x13 x14 x15 x16 x17 x20 x21 kc ks (nI N) (nI M) sd (et_an t r) (nI h) tk ac sn wd nd ns st se re) : ∀ d i, 1 ≤ i → i + d = N → wL_law_313 post L xs J (nI N) (nI M) x6 x7 x8 x9 x10 x11 x12 x13 x14 x15 x16 x17 x20 x21 kc ks (nI N) (nI M) sd (et_an t r) (nI h) tk ac sn wd nd ns st se re (d + 1) (nI i) := by
  obtain ⟨ts, hts⟩ := hK.2.2.2.2.2.1
  intro d
  induction d with
  | zero => exact fun i h1 hi => br_t (nI_le (by omega) (by omega)) H
  | succ d ih =>
    intro i h1 hi
    have hn := ih (i + 1) (by omega) (by omega)
    obtain ⟨c, -, c0, hX⟩ := ej_rstate (h := h) (sd := sd) (tk := tk) (ac := ac) (sn := sn) (wd := wd) (nd := nd) (ns := ns) (st := st) (se := se) (re := re) hN hM ht hr (show i < N by omega)
    refine br_f (nI_ge (by omega) (by omega)) (hX _ (br_c (fun _ => nm_r (nI_1 i) hn) (fun z => ⟨N - 1 + 1, ?_⟩)))
    have he : et_eng M sd t st re i := by
      by_cases he : et_eng M sd t st re i
      · exact he
      · by_cases ha : ac i = 0
        · exact absurd (c0.mpr ⟨ha, he⟩) z
        · exact hK.2.2.1 i (by omega) ha
    refine ej_336 hN0 hN hM hK hts hn (N - 1) 0 i (by omega) (by omega) (fun i0 => ⟨?_, ?_⟩)
    · rcases he with y | y
      · exact absurd y.1 i0
      · exact y.2
    · have := ej_lt_bd ts i0 (Nat.le_refl (ts i)) N (by omega)
      omega
theorem ej_269 (hN0 : 2 ≤ N) (hN : N ≤ 8) (hM : M ≤ 32) (ht : et_b t) (hr : et_b r) (hK : ej_K N M sd t r ac st se re nd ns (fun _ => False)) (h18 : t ≠ 0 → x18 ≠ 0) (e19 : x19 = et_sm wd N) (H : wL_law_390 post L xs J (nI N) (nI M) sd x7 x8 x9 x10 x11 x12 x13 x14 x15 (et_an t r) x17 x20 x21 kc ks (nI N) (nI M) sd (et_an t r) (nI h) tk ac sn wd nd ns st se re) : wL_law_269 post L xs J (nI N) (nI M) sd x7 x8 x9 x10 x11 x12 x13 x14 x15 (et_an t r) x17 x18 x19 x20 x21 kc ks (nI N) (nI M) sd (et_an t r) (nI h) tk ac sn wd nd ns st se re := by
  unfold wL_law_269
  refine br_c (fun z => br_c (fun _ => H) (fun y => ?_)) (fun z => ?_)
  · have t0 : t = 0 := (et_an1 ht hr).mp z
    obtain ⟨c, -, c0, hX⟩ := ej_rstate (h := h) (sd := sd) (tk := tk) (ac := ac) (sn := sn) (wd := wd) (nd := nd) (ns := ns) (st := st) (se := se) (re := re) hN hM ht hr (show 0 < N by omega)
    refine hX _ (br_f ?_ ⟨N - 1 + 1, ej_313 hN0 hN hM ht hr hK H (N - 1) 1 (by omega) (by omega)⟩)
    exact fun w => (c0.mp w).2 (Or.inl ⟨rfl, y, t0⟩)
  · have t0 : t ≠ 0 := fun y => z ((et_an1 ht hr).mpr y)
    exact br_f (h18 t0) (ej_rres0 hN ht hr t0 (br_t e19.symm H))
/-- the slots are looked at -/
theorem ej_206 (hN : N ≤ 8) (hM : M ≤ 32) (hI : et_Inv N M sd t ac st se re) (ht : et_b t) (H : ∀ x17 x18 : Int32, (x17 = 0 ↔ ej_q N M ac st) → (t ≠ 0 → x18 ≠ 0) → ((x16 = 0 → wL_law_257 post L xs J (nI N) (nI M) x6 x7 x8 x9 x10 x11 x12 x13 x14 x15 x16 x17 x18 x19 x20 x21 kc ks (nI N) (nI M) sd an (nI h) tk ac sn wd nd ns st se re) ∧ (¬ x16 = 0 → wL_law_257 post L xs J (nI N) (nI M) x6 1 x8 x9 x10 x11 x12 x13 x14 x15 x16 x17 x18 x19 x20 x21 kc ks (nI N) (nI M) sd an (nI h) tk ac sn wd nd ns st se re))) : ∀ d i (x17 x18 : Int32), i + d = M → (x17 = 0 ↔ ((∀ p, p < N → ac p = 0) ∧ ∀ j, j < i → st j ≠ 1)) → (t ≠ 0 → x18 ≠ 0) → wL_law_206 post L xs J (nI N) (nI M) x6 x7 x8 x9 x10 x11 x12 x13 x14 x15 x16 x19 x20 x21 kc ks (nI N) (nI M) sd an (nI h) tk ac sn wd nd ns st se re (d + 1) x17 x18 (nI i) := by
  intro d
  induction d with
  | zero =>
    intro i x17 x18 hi h17 h18
    have e : i = M := by omega
    subst e
    exact br_t (nI_le (by omega) (by omega)) (H x17 x18 h17 h18)
  | succ d ih =>
    intro i x17 x18 hi h17 h18
    have hi' : i < M := by omega
    obtain ⟨c, c1, c0, hX⟩ := ej_rnote (h := h) (an := an) (tk := tk) (sn := sn) (wd := wd) (nd := nd) (ns := ns) hN hM hI hi'
    have hz : t ≠ 0 → c = 0 := by
      intro z
      rcases ht with y | y
      · exact absurd y z
      · exact c0 ((hI.2.2.2.2 (Or.inr y)).1 i hi')
    have h2 : ∀ x17 : Int32, (x17 = 0 ↔ ((∀ p, p < N → ac p = 0) ∧ ∀ j, j < i + 1 → st j ≠ 1)) → wL_law_230 post L xs J (wL_law_206 post L xs J (nI N) (nI M) x6 x7 x8 x9 x10 x11 x12 x13 x14 x15 x16 x19 x20 x21 kc ks (nI N) (nI M) sd an (nI h) tk ac sn wd nd ns st se re (d + 1)) (nI N) (nI M) x6 x7 x8 x9 x10 x11 x12 x13 x14 x15 x16 x17 x18 x19 x20 x21 (nI i) kc ks (nI N) (nI M) sd an (nI h) tk ac sn wd nd ns st se re := by
      intro x17 h17
      unfold wL_law_230
      exact hX _ (br_c (fun _ => nm_r (nI_1 i) (ih (i + 1) x17 x18 (by omega) h17 h18)) (fun w => nm_r (nI_1 i) (ih (i + 1) x17 0 (by omega) h17 (fun y => absurd (hz y) w))))
    refine br_f (nI_ge (by omega) (by omega)) (hX _ ⟨by decide, br_c (fun w => h2 1 ?_) (fun w => h2 x17 ?_)⟩)
    · exact ⟨fun y => absurd y et_n10, fun y => absurd (c1.mp w) (y.2 i (by omega))⟩
    · constructor
      · intro y
        refine ⟨(h17.mp y).1, fun j hj => ?_⟩
        by_cases e : j = i
        · subst e; exact fun v => w (c1.mpr v)
        · exact (h17.mp y).2 j (by omega)
      · exact fun y => h17.mpr ⟨y.1, fun j hj => y.2 j (by omega)⟩
/-- the processes are looked at -/
theorem ej_125 (hN : N ≤ 8) (hM : M ≤ 32) (hI : et_Inv N M sd t ac st se re) (ht : et_b t) (hr : et_b r) (H : ∀ x17 x18 : Int32, (x17 = 0 ↔ ∀ p, p < N → ac p = 0) → (t ≠ 0 → x18 ≠ 0) → ∃ n, wL_law_206 post L xs J (nI N) (nI M) x6 x7 x8 x9 x10 x11 x12 x13 x14 x15 x16 (et_sm wd N) (et_sm nd N) (et_sm ns N) kc ks (nI N) (nI M) sd (et_an t r) (nI h) tk ac sn wd nd ns st se re n x17 x18 0) : ∀ d i (x17 x18 : Int32), i + d = N → (x17 = 0 ↔ ∀ p, p < i → ac p = 0) → (t ≠ 0 → x18 ≠ 0) → wL_law_125 post L xs J (nI N) (nI M) x6 x7 x8 x9 x10 x11 x12 x13 x14 x15 x16 kc ks (nI N) (nI M) sd (et_an t r) (nI h) tk ac sn wd nd ns st se re (d + 1) x17 x18 (et_sm wd i) (et_sm nd i) (et_sm ns i) (nI i) := by
  intro d
  induction d with
  | zero =>
    intro i x17 x18 hi h17 h18
    have e : i = N := by omega
    subst e
    exact br_t (nI_le (by omega) (by omega)) (H x17 x18 h17 h18)
  | succ d ih =>
    intro i x17 x18 hi h17 h18
    have hi' : i < N := by omega
    obtain ⟨c, c2, c0, hX⟩ := ej_rstate (h := h) (sd := sd) (tk := tk) (ac := ac) (sn := sn) (wd := wd) (nd := nd) (ns := ns) (st := st) (se := se) (re := re) hN hM ht hr hi'
    have hz : t ≠ 0 → c = 0 := by
      intro z
      have y : t = 1 := et_bn ht z
      obtain ⟨hF, hA⟩ := hI.2.2.2.2 (Or.inr y)
      refine c0.mpr ⟨hA i hi', fun w => ?_⟩
      rcases w with w | ⟨-, j, hj, w, -⟩
      · exact z w.2.2
      · exact absurd ((hF j hj).symm.trans w) et_n02
    have h5 : ∀ x17 x18 : Int32, (x17 = 0 ↔ ∀ p, p < i + 1 → ac p = 0) → (t ≠ 0 → x18 ≠ 0) → wL_law_158 post L xs J (wL_law_125 post L xs J (nI N) (nI M) x6 x7 x8 x9 x10 x11 x12 x13 x14 x15 x16 kc ks (nI N) (nI M) sd (et_an t r) (nI h) tk ac sn wd nd ns st se re (d + 1)) (nI N) (nI M) x6 x7 x8 x9 x10 x11 x12 x13 x14 x15 x16 x17 x18 (et_sm wd i) (et_sm nd i) (et_sm ns i) (nI i) kc ks (nI N) (nI M) sd (et_an t r) (nI h) tk ac sn wd nd ns st se re := by
      intro x17 x18 h17 h18
      unfold wL_law_158
      exact ej_rt0 hN hi' (nm_e (ej_rt1 hN hi' (nm_e (ej_rt2 hN hi' (nm_e (nm_r (nI_1 i) (ih (i + 1) x17 x18 (by omega) h17 h18)))))))
    have h4 : ∀ x17 : Int32, (x17 = 0 ↔ ∀ p, p < i + 1 → ac p = 0) → wL_law_145 post L xs J (wL_law_125 post L xs J (nI N) (nI M) x6 x7 x8 x9 x10 x11 x12 x13 x14 x15 x16 kc ks (nI N) (nI M) sd (et_an t r) (nI h) tk ac sn wd nd ns st se re (d + 1)) (nI N) (nI M) x6 x7 x8 x9 x10 x11 x12 x13 x14 x15 x16 x17 x18 (et_sm wd i) (et_sm nd i) (et_sm ns i) (nI i) kc ks (nI N) (nI M) sd (et_an t r) (nI h) tk ac sn wd nd ns st se re := by
      intro x17 h17
      unfold wL_law_145
      exact hX _ (br_c (fun _ => h5 x17 x18 h17 h18) (fun w => h5 x17 0 h17 (fun y => absurd (hz y) w)))
    refine br_f (nI_ge (by omega) (by omega)) (hX _ (br_c (fun w => h4 1 ?_) (fun w => h4 x17 ?_)))
    · exact ⟨fun y => absurd y et_n10, fun y => absurd (y i (by omega)) (c2.mp w)⟩
    · constructor
      · intro y p hp
        by_cases e : p = i
        · subst e; exact Decidable.not_not.mp (fun v => w (c2.mpr v))
        · exact h17.mp y p (by omega)
      · exact fun y => h17.mpr (fun p hp => y p (by omega))
end EKA
end
section
section ETP2
variable {N M L : Nat} {xs : Nat → Int32} {post : Int32 → Prop} {kc ks : Nat}
theorem ej_ann {t r : Int32} (ht : et_b t) (hr : et_b r) : et_an t r = 0 ↔ (t = 0 ∧ r = 0) := by
  rcases ht with rfl | rfl <;> rcases hr with rfl | rfl <;> decide
/-- the law's loop -/
theorem ej_93 (hL : L ≤ 260) (hN0 : 2 ≤ N) (hN : N ≤ 8) (hM0 : 8 ≤ M) (hM : M ≤ 32) (hp1 : post 1) {B : Nat} (hB : B < 2 ^ 31) : ∀ d i, i + d = B → ej_HJ N M L i (wL_law_93 post L xs (nI N) (nI M) (nI B) kc ks (d + 1)) := by
  intro d
  induction d with
  | zero =>
    intro i hi sd x7 x8 x10 x11 x12 x13 kk h t r tk ac sn wd nd ns st se re hk hh ht hr hJ hq
    exact br_t (nI_le (by omega) (by omega)) hp1
  | succ d ih =>
    intro i hi sd x7 x8 x10 x11 x12 x13 kk h t r tk ac sn wd nd ns st se re hk hh ht hr hJ hq
    have HJ := ih (i + 1) (by omega)
    refine br_f (nI_ge (by omega) (by omega)) ?_
    have hI := hJ.1.1
    have qt : t ≠ 0 ∨ r ≠ 0 → ej_q N M ac st := by
      rintro (z | z)
      · have g := hI.2.2.2.2 (Or.inr (et_bn ht z))
        exact ⟨g.2, fun j hj e => by rw [g.1 j hj] at e; exact absurd e (by decide)⟩
      · exact hJ.1.2.2.2.2.1 z
    have main : ∀ (x7' x17 x18 : Int32), (x7' ≠ 0 → t ≠ 0 ∨ r ≠ 0) → (x17 = 0 ↔ ej_q N M ac st) → (t ≠ 0 → x18 ≠ 0) → wL_law_257 post L xs (wL_law_93 post L xs (nI N) (nI M) (nI B) kc ks (d + 1)) (nI N) (nI M) sd x7' x8 (nI kk) x10 x11 x12 x13 (nI B) (nI i) (et_an t r) x17 x18 (et_sm wd N) (et_sm nd N) (et_sm ns N) kc ks (nI N) (nI M) sd (et_an t r) (nI h) tk ac sn wd nd ns st se re := by
      intro x7' x17 x18 hq' h17 h18
      have H9 : wL_law_269 post L xs (wL_law_93 post L xs (nI N) (nI M) (nI B) kc ks (d + 1)) (nI N) (nI M) sd x7' x8 (nI kk) x10 x11 x12 x13 (nI B) (nI i) (et_an t r) x17 x18 (et_sm wd N) (et_sm nd N) (et_sm ns N) kc ks (nI N) (nI M) sd (et_an t r) (nI h) tk ac sn wd nd ns st se re :=
        ej_269 hN0 hN hM ht hr hJ.1 h18 rfl (ej_390 hN ht hr hJ rfl rfl (ej_421 hL hN0 hN hM0 hM ht hr hp1 (fun y8 y10 y11 y12 y13 y26 y27 y28 k2 hk2 => ej_965 hN0 hN hM HJ hk2 hh ht hr hJ hq' h17 y8 y10 y11 y12 y13 _ y26 y27 y28) hk x8 x10 x11 x12 x13))
      unfold wL_law_257
      exact br_c (fun _ => H9) (fun z => br_t (h17.mpr (qt (hq' z))) H9)
    show ∃ fu125 : Nat, _
    refine ⟨N + 1, ej_125 hN hM hI ht hr (fun x17 x18 h17 h18 => ⟨M + 1, ej_206 hN hM hI ht (fun y17 y18 g17 g18 => ?_) M 0 x17 x18 (by omega) ?_ h18⟩) N 0 0 1 (by omega) ⟨fun _ p hp => absurd hp (Nat.not_lt_zero p), fun _ => rfl⟩ (fun _ => et_n10)⟩
    · refine br_c (fun _ => main x7 y17 y18 hq g17 g18) (fun z => main 1 y17 y18 (fun _ => ?_) g17 g18)
      by_cases t0 : t = 0
      · exact Or.inr (fun r0 => z ((ej_ann ht hr).mpr ⟨t0, r0⟩))
      · exact Or.inl t0
    · exact ⟨fun y => ⟨h17.mp y, fun j hj => absurd hj (Nat.not_lt_zero j)⟩, fun y => h17.mpr y.1⟩
theorem ej_clamp (x : Int32) {lo hi : Nat} (hl : lo ≤ hi) (hh : hi < 2 ^ 31) : ∃ n : Nat, lo ≤ n ∧ n ≤ hi ∧ (∀ post : Int32 → Prop, post (nI n) → wpL_clamp post () x (nI lo) (nI hi)) ∧ (∀ post : Int32 → Prop, post (nI n) → wpX_clamp post () x (nI lo) (nI hi)) := by
  by_cases h1 : nI lo ≤ x
  · have h0 : ¬ x < 0 := Int32.not_lt.mpr (Int32.le_trans (nI_pos' (by omega)) h1)
    obtain ⟨j, hj, rfl⟩ := nI_of h0
    have h1' := (nI_leI (by omega) hj).mp h1
    by_cases h2 : nI j ≤ nI hi
    · exact ⟨j, h1', (nI_leI hj hh).mp h2, fun post hp => br_t h1 (br_t h2 hp), fun A hp => br_t h1 (br_t h2 hp)⟩
    · exact ⟨hi, hl, Nat.le_refl _, fun post hp => br_t h1 (br_f h2 hp), fun A hp => br_t h1 (br_f h2 hp)⟩
  · exact ⟨lo, Nat.le_refl _, hl, fun post hp => br_f h1 hp, fun A hp => br_f h1 hp⟩
/-- the state at the beginning -/
theorem ej_init (N M : Nat) : ej_J N M 0 0 0 (fun _ => 0) (fun _ => 0) (fun _ => 0) (fun _ => 0) (fun _ => 0) (fun _ => 0) := by
  refine ⟨⟨et_inv0 _ _, fun _ _ e => absurd rfl e, fun _ _ e => absurd rfl e, fun _ _ e => absurd e et_n02, fun e => absurd rfl e, ⟨fun _ => 0, fun _ _ e => absurd e et_n02⟩, ?_⟩, fun e => absurd rfl e⟩
  rw [ej_fly_0 M (fun _ _ => by decide)]
  exact (Int32.add_zero _).symm
end ETP2
theorem i_vc (xs : Nat → Int32) (L : Nat) (hL : L ≤ 260) : wpL_law (fun r => r = 1) L xs := by
  unfold wpL_law
  refine ej_cell hL 0 (by omega) rfl (fun c => ⟨by decide, nm_e (ej_cell hL 1 (by omega) rfl (fun c' => ⟨by decide, nm_e ?_⟩))⟩)
  obtain ⟨N, n1, n2, nL, nX⟩ := ej_clamp (1 + ((c &&& 2147483647) - (c &&& 2147483647) / 9 * 9)) (lo := 2) (hi := 8) (by decide) (by decide)
  obtain ⟨M, m1, m2, mL, mX⟩ := ej_clamp (5 + ((c' &&& 2147483647) - (c' &&& 2147483647) / 32 * 32)) (lo := 8) (hi := 32) (by decide) (by decide)
  refine nL _ (mL _ ⟨8, 136, by decide, by decide, ?_⟩)
  unfold wpX_init
  refine ⟨by decide, by decide, by decide, by decide, by decide, by decide, by decide, by decide, by decide, by decide, by decide, by decide, by decide, by decide, by decide, by decide, nX _ (mX _ ?_)⟩
  have e : (122 : Int32) * (Int32.ofNat L + 3) = nI (122 * (L + 3)) := by
    show nI 122 * (nI L + nI 3) = _
    rw [nI_add, pk_mul]
  refine nm_r e ⟨122 * (L + 3) + 1, ?_⟩
  exact ej_93 (post := fun r => r = 1) (xs := xs) (B := 122 * (L + 3)) hL n1 n2 m1 m2 rfl (by omega) (122 * (L + 3)) 0 (by omega) 0 0 0 0 0 0 0 2 0 0 0 0 (fun _ => 0) (fun _ => 0) (fun _ => 0) (fun _ => 0) (fun _ => 0) (fun _ => 0) (fun _ => 0) (fun _ => 0) (by omega) (by omega) et_b0 et_b0 (ej_init N M) (fun z => absurd rfl z)
end
