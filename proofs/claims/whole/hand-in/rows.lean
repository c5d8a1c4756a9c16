section
-- rows pasted from kit/rows/PURE-ROWS
theorem pk_us {f : Nat → Int32} {k : Nat} {x : Int32} : upd f k x k = x := if_pos rfl
theorem pk_un {f : Nat → Int32} {k j : Nat} {x : Int32} (h : j ≠ k) : upd f k x j = f j := if_neg h
theorem pk_sub {a b : Nat} (h : b ≤ a) : nI a - nI b = nI (a - b) := by
  obtain ⟨c, rfl⟩ : ∃ c, a = c + b := ⟨a - b, by omega⟩
  rw [← nI_add, Int32.add_sub_cancel, Nat.add_sub_cancel]
theorem pk_m1 (n : Nat) : nI (n + 1) + (-1) = nI n := by
  rw [← nI_1, Int32.add_assoc, show (1 : Int32) + (-1) = 0 from rfl, Int32.add_zero]
theorem pk_mul (a b : Nat) : nI a * nI b = nI (a * b) := (Int32.ofNat_mul a b).symm
theorem pk_ix (x : Int32) {n : Nat} (hn : n < 2 ^ 31) : x < 0 ∨ nI n ≤ x ∨ ∃ j : Nat, j < n ∧ x = nI j := by
  by_cases h : x < 0
  · exact Or.inl h
  · obtain ⟨j, hj, rfl⟩ := nI_of h
    by_cases h2 : j < n
    · exact Or.inr (Or.inr ⟨j, h2, rfl⟩)
    · exact Or.inr (Or.inl (nI_le (by omega) hj))
theorem pk_le {x y : Int32} {A B : Prop} (a b : Nat) (f : a ≤ b → A) (g : b < a → B) (hx : x = nI a := by rfl) (hy : y = nI b := by rfl) (ha : a < 2 ^ 31 := by omega) (hb : b < 2 ^ 31 := by omega) : (x ≤ y → A) ∧ (¬ x ≤ y → B) := by
  subst hx hy
  rw [nI_leI ha hb]
  exact ⟨f, fun z => g (by omega)⟩
theorem pk_lt {x y : Int32} {A B : Prop} (a b : Nat) (f : a < b → A) (g : b ≤ a → B) (hx : x = nI a := by rfl) (hy : y = nI b := by rfl) (ha : a < 2 ^ 31 := by omega) (hb : b < 2 ^ 31 := by omega) : (x < y → A) ∧ (¬ x < y → B) := by
  subst hx hy
  rw [nI_ltI ha hb]
  exact ⟨f, fun z => g (by omega)⟩
theorem pk_eq {x y : Int32} {A B : Prop} (a b : Nat) (f : a = b → A) (g : a ≠ b → B) (hx : x = nI a := by rfl) (hy : y = nI b := by rfl) (ha : a < 2 ^ 31 := by omega) (hb : b < 2 ^ 31 := by omega) : (x = y → A) ∧ (¬ x = y → B) := by
  subst hx hy
  rw [nI_eq ha hb]
  exact ⟨f, g⟩
theorem pk_in {x : Int32} (n N : Nat) (h : n < N) (hx : x = nI n := by rfl) (hN : N < 2 ^ 31 := by omega) : vp_in x N := by
  subst hx
  exact vp_in_nI h hN
theorem pk_cl {x : Int32} (n : Nat) (hx : x = nI n := by rfl) (h : n < 2 ^ 31 := by omega) : x.toNatClampNeg = n := by
  subst hx
  exact nI_clamp h
-- own small rows
theorem et_vb0 : vp_nar .boolean 0 = 0 := by decide
theorem et_vb1 : vp_nar .boolean 1 = 1 := by decide
theorem et_nb {z : Int32} (h : z = 0 ∨ z = 1) : narrow .boolean (.int z) = .int z := by rcases h with rfl | rfl <;> rfl
theorem et_first (P : Nat → Prop) : ∀ M : Nat, (∀ j, j < M → ¬ P j) ∨ ∃ j, j < M ∧ P j ∧ ∀ i, i < j → ¬ P i := by
  intro M
  induction M with
  | zero => exact Or.inl (fun j hj => absurd hj (Nat.not_lt_zero j))
  | succ M ih =>
    rcases ih with h | ⟨j, hj, hp, hn⟩
    · by_cases hp : P M
      · exact Or.inr ⟨M, Nat.lt_succ_self M, hp, h⟩
      · refine Or.inl (fun j hj => ?_)
        by_cases e : j = M
        · rw [e]; exact hp
        · exact h j (by omega)
    · exact Or.inr ⟨j, by omega, hp, hn⟩
theorem et_0n : nI 0 = 0 := nI_0
theorem et_1n : nI 1 = 1 := by decide
theorem et_n12 : (1 : Int32) ≠ 2 := by decide
theorem et_n10 : (1 : Int32) ≠ 0 := by decide
theorem et_n20 : (2 : Int32) ≠ 0 := by decide
theorem et_n30 : (3 : Int32) ≠ 0 := by decide
theorem et_n32 : (3 : Int32) ≠ 2 := by decide
theorem et_n02 : (0 : Int32) ≠ 2 := by decide
theorem et_m1 {n : Nat} (h : n < 2 ^ 31) : nI n ≠ -1 := by
  intro e
  have := nI_pos h
  rw [e] at this
  exact this (by decide)
end
section
section ETP
def et_Inv (N M : Nat) (sd t : Int32) (ac st se re : Nat → Int32) : Prop :=
  (∀ j, j < M → st j = 0 ∨ st j = 1 ∨ st j = 2 ∨ st j = 3) ∧
  (∀ j, j < M → st j ≠ 0 → (∃ a, a < N ∧ se j = nI a) ∧ (∃ b, b < N ∧ re j = nI b)) ∧
  (∀ j, j < M → st j = 2 → re j ≠ 0) ∧
  (∀ i j, i < M → j < M → st i = 2 → st j = 2 → re i = re j → i = j) ∧
  ((sd = 0 ∨ t = 1) → (∀ j, j < M → st j = 0) ∧ (∀ p, p < N → ac p = 0))
variable {N M : Nat} {sd t : Int32} {ac st se re : Nat → Int32}
theorem et_inv0 (se re : Nat → Int32) : et_Inv N M sd t (fun _ => 0) (fun _ => 0) se re :=
  ⟨fun _ _ => Or.inl rfl, fun _ _ h => absurd rfl h, fun _ _ h => absurd h et_n02, fun _ _ _ _ h => absurd h et_n02, fun _ => ⟨fun _ _ => rfl, fun _ _ => rfl⟩⟩
/-- a work note set off into slot s -/
theorem et_send (I : et_Inv N M sd t ac st se re) {a b s : Nat} (ha : a < N) (hb : b < N) (hac : ac a ≠ 0) : et_Inv N M sd t ac (upd st s 1) (upd se s (nI a)) (upd re s (nI b)) := by
  obtain ⟨h1, h2, h3, h4, h5⟩ := I
  refine ⟨?_, ?_, ?_, ?_, ?_⟩
  · intro j hj
    by_cases e : j = s
    · subst e; rw [pk_us]; exact Or.inr (Or.inl rfl)
    · rw [pk_un e]; exact h1 j hj
  · intro j hj
    by_cases e : j = s
    · subst e; rw [pk_us, pk_us, pk_us]; exact fun _ => ⟨⟨a, ha, rfl⟩, ⟨b, hb, rfl⟩⟩
    · rw [pk_un e, pk_un e, pk_un e]; exact h2 j hj
  · intro j hj
    by_cases e : j = s
    · subst e; rw [pk_us]; exact fun z => absurd z et_n12
    · rw [pk_un e, pk_un e]; exact h3 j hj
  · intro i j hi hj zi zj zr
    by_cases e : i = s
    · subst e; rw [pk_us] at zi; exact absurd zi et_n12
    · by_cases e' : j = s
      · subst e'; rw [pk_us] at zj; exact absurd zj et_n12
      · rw [pk_un e] at zi; rw [pk_un e'] at zj; rw [pk_un e, pk_un e'] at zr; exact h4 i j hi hj zi zj zr
  · intro z
    exact absurd ((h5 z).2 a ha) hac
/-- a stage c written into a slot that isn't FREE, where c isn't HELD, or no other slot is HELD for that receiver -/
theorem et_put (I : et_Inv N M sd t ac st se re) {s : Nat} {c : Int32} (hs : s < M) (e1 : st s ≠ 0) (hc : c = 0 ∨ c = 3 ∨ (c = 2 ∧ re s ≠ 0 ∧ ∀ j, j < M → st j = 2 → re j ≠ re s)) : et_Inv N M sd t ac (upd st s c) se re := by
  obtain ⟨h1, h2, h3, h4, h5⟩ := I
  have h2s := h2 s hs e1
  refine ⟨?_, ?_, ?_, ?_, ?_⟩
  · intro j hj
    by_cases e : j = s
    · subst e; rw [pk_us]
      rcases hc with h | h | h
      · exact Or.inl h
      · exact Or.inr (Or.inr (Or.inr h))
      · exact Or.inr (Or.inr (Or.inl h.1))
    · rw [pk_un e]; exact h1 j hj
  · intro j hj
    by_cases e : j = s
    · subst e; exact fun _ => h2s
    · rw [pk_un e]; exact h2 j hj
  · intro j hj
    by_cases e : j = s
    · subst e; rw [pk_us]
      rcases hc with h | h | h
      · exact fun z => absurd (h.symm.trans z) et_n02
      · exact fun z => absurd (h.symm.trans z) et_n32
      · exact fun _ => h.2.1
    · rw [pk_un e]; exact h3 j hj
  · intro i j hi hj zi zj zr
    by_cases e : i = s
    · by_cases e' : j = s
      · rw [e, e']
      · subst e; rw [pk_us] at zi; rw [pk_un e'] at zj
        rcases hc with h | h | h
        · exact absurd (h.symm.trans zi) et_n02
        · exact absurd (h.symm.trans zi) et_n32
        · exact absurd zr.symm (h.2.2 j hj zj)
    · by_cases e' : j = s
      · subst e'; rw [pk_us] at zj; rw [pk_un e] at zi
        rcases hc with h | h | h
        · exact absurd (h.symm.trans zj) et_n02
        · exact absurd (h.symm.trans zj) et_n32
        · exact absurd zr (h.2.2 i hi zi)
      · rw [pk_un e] at zi; rw [pk_un e'] at zj; exact h4 i j hi hj zi zj zr
  · intro z
    exact absurd ((h5 z).1 s hs) e1
/-- a process becomes active while some slot isn't FREE -/
theorem et_wake (I : et_Inv N M sd t ac st se re) {s : Nat} (hs : s < M) (e1 : st s ≠ 0) (ac' : Nat → Int32) : et_Inv N M sd t ac' st se re :=
  ⟨I.1, I.2.1, I.2.2.1, I.2.2.2.1, fun z => absurd ((I.2.2.2.2 z).1 s hs) e1⟩
theorem et_rest (I : et_Inv N M sd t ac st se re) (q : Nat) : et_Inv N M sd t (upd ac q 0) st se re :=
  ⟨I.1, I.2.1, I.2.2.1, I.2.2.2.1, fun z => ⟨(I.2.2.2.2 z).1, fun p hp => by
    by_cases e : p = q
    · subst e; exact pk_us
    · rw [pk_un e]; exact (I.2.2.2.2 z).2 p hp⟩⟩
theorem et_tree (I : et_Inv N M sd t ac st se re) (hF : ∀ j, j < M → st j = 0) (hA : ∀ p, p < N → ac p = 0) (t' : Int32) : et_Inv N M sd t' ac st se re :=
  ⟨I.1, I.2.1, I.2.2.1, I.2.2.2.1, fun _ => ⟨hF, hA⟩⟩
theorem et_start (I : et_Inv N M sd t ac st se re) (ac' : Nat → Int32) : et_Inv N M 1 0 ac' st se re :=
  ⟨I.1, I.2.1, I.2.2.1, I.2.2.2.1, fun y => by rcases y with y | y <;> exact absurd y (by decide)⟩
/-- the deficit: slots below k that aren't FREE and whose sender is p -/
def et_cn (st se : Nat → Int32) (p : Int32) : Nat → Nat
  | 0 => 0
  | k + 1 => if st k ≠ 0 ∧ se k = p then et_cn st se p k + 1 else et_cn st se p k
theorem et_cn_le (st se : Nat → Int32) (p : Int32) : ∀ k, et_cn st se p k ≤ k := by
  intro k
  induction k with
  | zero => exact Nat.le_refl 0
  | succ k ih =>
    show (if st k ≠ 0 ∧ se k = p then et_cn st se p k + 1 else et_cn st se p k) ≤ k + 1
    split <;> omega
theorem et_cn_t {st se : Nat → Int32} {p : Int32} {k : Nat} (h : st k ≠ 0) (h' : se k = p) : et_cn st se p (k + 1) = et_cn st se p k + 1 := if_pos ⟨h, h'⟩
theorem et_cn_f {st se : Nat → Int32} {p : Int32} {k : Nat} (h : ¬ (st k ≠ 0 ∧ se k = p)) : et_cn st se p (k + 1) = et_cn st se p k := if_neg h
end ETP
section ETQ
/-- the announced bits -/
def et_an (t r : Int32) : Int32 := t + 2 * r
def et_b (t : Int32) : Prop := t = 0 ∨ t = 1
variable {t r : Int32}
theorem et_an1 (ht : et_b t) (hr : et_b r) : (et_an t r &&& 1) = 0 ↔ t = 0 := by rcases ht with rfl | rfl <;> rcases hr with rfl | rfl <;> decide
theorem et_an2 (ht : et_b t) (hr : et_b r) : (et_an t r &&& 2) = 0 ↔ r = 0 := by rcases ht with rfl | rfl <;> rcases hr with rfl | rfl <;> decide
theorem et_or1 (ht : et_b t) (hr : et_b r) : (et_an t r ||| 1) = et_an 1 r := by rcases ht with rfl | rfl <;> rcases hr with rfl | rfl <;> decide
theorem et_or2 (ht : et_b t) (hr : et_b r) : (et_an t r ||| 2) = et_an t 1 := by rcases ht with rfl | rfl <;> rcases hr with rfl | rfl <;> decide
theorem et_an3 (ht : et_b t) (hr : et_b r) : et_an t r = 3 ↔ (t ≠ 0 ∧ r ≠ 0) := by rcases ht with rfl | rfl <;> rcases hr with rfl | rfl <;> decide
theorem et_b0 : et_b 0 := Or.inl rfl
theorem et_b1 : et_b 1 := Or.inr rfl
theorem et_bn (h : et_b t) (h0 : t ≠ 0) : t = 1 := by rcases h with h | h; exact absurd h h0; exact h
/-- sums, masks, cleared arrays -/
def et_sm (f : Nat → Int32) : Nat → Int32
  | 0 => 0
  | n + 1 => et_sm f n + f n
theorem et_sm_c {f g : Nat → Int32} : ∀ n, (∀ p, p < n → f p = g p) → et_sm f n = et_sm g n := by
  intro n
  induction n with
  | zero => exact fun _ => rfl
  | succ n ih =>
    intro h
    show et_sm f n + f n = et_sm g n + g n
    rw [ih (fun p hp => h p (by omega)), h n (by omega)]
def et_mk (d : Nat → Int32) : Nat → Nat
  | 0 => 0
  | p + 1 => if p = 0 ∨ 0 < d p then et_mk d p + 2 ^ p else et_mk d p
theorem et_mk_lt (d : Nat → Int32) : ∀ p, et_mk d p < 2 ^ p := by
  intro p
  induction p with
  | zero => show (0 : Nat) < 2 ^ 0; decide
  | succ p ih =>
    show (if p = 0 ∨ 0 < d p then et_mk d p + 2 ^ p else et_mk d p) < 2 ^ (p + 1)
    have e : 2 ^ (p + 1) = 2 ^ p + 2 ^ p := by rw [Nat.pow_succ]; omega
    rw [e]
    split <;> omega
theorem et_mk_c {f g : Nat → Int32} : ∀ n, (∀ p, p < n → f p = g p) → et_mk f n = et_mk g n := by
  intro n
  induction n with
  | zero => exact fun _ => rfl
  | succ n ih =>
    intro h
    show (if n = 0 ∨ 0 < f n then et_mk f n + 2 ^ n else et_mk f n) = (if n = 0 ∨ 0 < g n then et_mk g n + 2 ^ n else et_mk g n)
    rw [ih (fun p hp => h p (by omega)), h n (by omega)]
theorem et_mk_t {d : Nat → Int32} {p : Nat} (h : p = 0 ∨ 0 < d p) : et_mk d (p + 1) = et_mk d p + 2 ^ p := if_pos h
theorem et_mk_f {d : Nat → Int32} {p : Nat} (h : ¬ (p = 0 ∨ 0 < d p)) : et_mk d (p + 1) = et_mk d p := if_neg h
theorem et_mk_1 (d : Nat → Int32) : et_mk d 1 = 1 := et_mk_t (Or.inl rfl)
theorem et_sh : ∀ p, p < 8 → (1 : Int32) <<< (nI p &&& 31) = nI (2 ^ p) := by decide +kernel
theorem et_ior : ∀ p, p < 8 → ∀ m, m < 2 ^ p → nI m ||| nI (2 ^ p) = nI (m + 2 ^ p) := by decide +kernel
def et_cl (f : Nat → Int32) : Nat → Nat → Int32
  | 0 => f
  | i + 1 => upd (et_cl f i) i 0
def et_ca (f : Nat → Int32) : Nat → Nat → Int32
  | 0 => f
  | i + 1 => upd (et_ca f i) i (if i = 0 then 1 else 0)
theorem et_cl_at (f : Nat → Int32) {p : Nat} : ∀ i, p < i → et_cl f i p = 0 := by
  intro i
  induction i with
  | zero => exact fun h => absurd h (Nat.not_lt_zero p)
  | succ i ih =>
    intro h
    show upd (et_cl f i) i 0 p = 0
    by_cases e : p = i
    · subst e; exact pk_us
    · rw [pk_un e]; exact ih (by omega)
theorem et_ca_at (f : Nat → Int32) {p : Nat} : ∀ i, p < i → et_ca f i p = if p = 0 then 1 else 0 := by
  intro i
  induction i with
  | zero => exact fun h => absurd h (Nat.not_lt_zero p)
  | succ i ih =>
    intro h
    show upd (et_ca f i) i (if i = 0 then 1 else 0) p = _
    by_cases e : p = i
    · subst e; exact pk_us
    · rw [pk_un e]; exact ih (by omega)
end ETQ
end
section
section ETX
variable {N M h : Nat} {sd an tk : Int32} {ac sn wd nd ns st se re : Nat → Int32} {post : Int32 → Prop}
theorem et_xP_t {j : Nat} (hN : N ≤ 8) (hj : j < N) (hp : post 1) : wpX_isProcess post (nI N, nI M, sd, an, nI h, tk, ac, sn, wd, nd, ns, st, se, re) (nI j) :=
  br_f (nI_pos (by omega)) (br_f (nI_ge hj (by omega)) hp)
theorem et_xP_f {x : Int32} (hx : x < 0 ∨ nI N ≤ x) (hp : post 0) : wpX_isProcess post (nI N, nI M, sd, an, nI h, tk, ac, sn, wd, nd, ns, st, se, re) x := by
  by_cases h0 : x < 0
  · exact br_t h0 hp
  · exact br_f h0 (br_t (hx.resolve_left h0) hp)
theorem et_xS_t {j : Nat} (hM : M ≤ 32) (hj : j < M) (hp : post 1) : wpX_isSlot post (nI N, nI M, sd, an, nI h, tk, ac, sn, wd, nd, ns, st, se, re) (nI j) :=
  br_f (nI_pos (by omega)) (br_f (nI_ge hj (by omega)) hp)
theorem et_xS_f {x : Int32} (hx : x < 0 ∨ nI M ≤ x) (hp : post 0) : wpX_isSlot post (nI N, nI M, sd, an, nI h, tk, ac, sn, wd, nd, ns, st, se, re) x := by
  by_cases h0 : x < 0
  · exact br_t h0 hp
  · exact br_f h0 (br_t (hx.resolve_left h0) hp)
theorem et_xA_t {b : Int32} (hb : (an &&& b) ≠ 0) (hp : post 1) : wpX_isAnnounced post (nI N, nI M, sd, an, nI h, tk, ac, sn, wd, nd, ns, st, se, re) b := br_f hb hp
theorem et_xA_f {b : Int32} (hb : (an &&& b) = 0) (hp : post 0) : wpX_isAnnounced post (nI N, nI M, sd, an, nI h, tk, ac, sn, wd, nd, ns, st, se, re) b := br_t hb hp
-- the lowest slot at a stage
theorem et_xlow_nl {c : Int32} (hM : M ≤ 32) (hp : post (-1)) : ∀ d i, i + d = M → (∀ j, i ≤ j → j < M → st j ≠ c) → wX_lowestSlotAt_2 post c (nI N) (nI M) sd an (nI h) tk ac sn wd nd ns st se re (d + 1) (nI i) := by
  intro d
  induction d with
  | zero => exact fun i hi _ => br_t (nI_le (by omega) (by omega)) hp
  | succ d ih =>
    intro i hi hn
    refine br_f (nI_ge (by omega) (by omega)) ⟨vp_in_nI (by omega) (by decide), br_f ?_ (nm_r (nI_1 i) (ih (i + 1) (by omega) (fun j hj => hn j (by omega))))⟩
    rw [nI_clamp (by omega)]; exact hn i (Nat.le_refl i) (by omega)
theorem et_xlow_n {c : Int32} (hM : M ≤ 32) (hn : ∀ j, j < M → st j ≠ c) (hp : post (-1)) : wpX_lowestSlotAt post (nI N, nI M, sd, an, nI h, tk, ac, sn, wd, nd, ns, st, se, re) c :=
  ⟨M + 1, et_xlow_nl hM hp M 0 (by omega) (fun j _ => hn j)⟩
theorem et_xlow_sl {c : Int32} {s : Nat} (hM : M ≤ 32) (hs : s < M) (hc : st s = c) (hp : post (nI s)) : ∀ d i, i + d = s → (∀ j, i ≤ j → j < s → st j ≠ c) → wX_lowestSlotAt_2 post c (nI N) (nI M) sd an (nI h) tk ac sn wd nd ns st se re (d + 1) (nI i) := by
  intro d
  induction d with
  | zero =>
    intro i hi _
    have e : i = s := by omega
    subst e
    exact br_f (nI_ge (by omega) (by omega)) ⟨vp_in_nI (by omega) (by decide), br_t (by rw [nI_clamp (by omega)]; exact hc) hp⟩
  | succ d ih =>
    intro i hi hn
    refine br_f (nI_ge (by omega) (by omega)) ⟨vp_in_nI (by omega) (by decide), br_f ?_ (nm_r (nI_1 i) (ih (i + 1) (by omega) (fun j hj => hn j (by omega))))⟩
    rw [nI_clamp (by omega)]; exact hn i (Nat.le_refl i) (by omega)
theorem et_xlow_s {c : Int32} {s : Nat} (hM : M ≤ 32) (hs : s < M) (hc : st s = c) (hn : ∀ j, j < s → st j ≠ c) (hp : post (nI s)) : wpX_lowestSlotAt post (nI N, nI M, sd, an, nI h, tk, ac, sn, wd, nd, ns, st, se, re) c :=
  ⟨s + 1, et_xlow_sl hM hs hc hp s 0 (by omega) (fun j _ => hn j)⟩
-- the HELD slot of a receiver
theorem et_xheld_nl {x : Int32} (hM : M ≤ 32) (hp : post (-1)) : ∀ d i, i + d = M → (∀ j, i ≤ j → j < M → ¬ (st j = 2 ∧ re j = x)) → wX_heldSlot_2 post x (nI N) (nI M) sd an (nI h) tk ac sn wd nd ns st se re (d + 1) (nI i) := by
  intro d
  induction d with
  | zero => exact fun i hi _ => br_t (nI_le (by omega) (by omega)) hp
  | succ d ih =>
    intro i hi hn
    have hr := nm_r (P := fun y => wX_heldSlot_2 post x (nI N) (nI M) sd an (nI h) tk ac sn wd nd ns st se re (d + 1) y) (nI_1 i) (ih (i + 1) (by omega) (fun j hj => hn j (by omega)))
    have hi' := hn i (Nat.le_refl i) (by omega)
    refine br_f (nI_ge (by omega) (by omega)) ⟨vp_in_nI (by omega) (by decide), br_c (fun z => ⟨vp_in_nI (by omega) (by decide), br_f ?_ hr⟩) (fun _ => hr)⟩
    rw [nI_clamp (by omega)] at z ⊢
    exact fun y => hi' ⟨z, y⟩
theorem et_xheld_n {x : Int32} (hM : M ≤ 32) (hn : ∀ j, j < M → ¬ (st j = 2 ∧ re j = x)) (hp : post (-1)) : wpX_heldSlot post (nI N, nI M, sd, an, nI h, tk, ac, sn, wd, nd, ns, st, se, re) x :=
  ⟨M + 1, et_xheld_nl hM hp M 0 (by omega) (fun j _ => hn j)⟩
theorem et_xheld_sl {x : Int32} {s : Nat} (hM : M ≤ 32) (hs : s < M) (h2 : st s = 2) (hx : re s = x) (hp : post (nI s)) : ∀ d i, i + d = s → (∀ j, i ≤ j → j < s → ¬ (st j = 2 ∧ re j = x)) → wX_heldSlot_2 post x (nI N) (nI M) sd an (nI h) tk ac sn wd nd ns st se re (d + 1) (nI i) := by
  intro d
  induction d with
  | zero =>
    intro i hi _
    have e : i = s := by omega
    subst e
    refine br_f (nI_ge (by omega) (by omega)) ⟨vp_in_nI (by omega) (by decide), br_t ?_ ⟨vp_in_nI (by omega) (by decide), br_t ?_ hp⟩⟩
    · rw [nI_clamp (by omega)]; exact h2
    · rw [nI_clamp (by omega)]; exact hx
  | succ d ih =>
    intro i hi hn
    have hr := nm_r (P := fun y => wX_heldSlot_2 post x (nI N) (nI M) sd an (nI h) tk ac sn wd nd ns st se re (d + 1) y) (nI_1 i) (ih (i + 1) (by omega) (fun j hj => hn j (by omega)))
    have hi' := hn i (Nat.le_refl i) (by omega)
    refine br_f (nI_ge (by omega) (by omega)) ⟨vp_in_nI (by omega) (by decide), br_c (fun z => ⟨vp_in_nI (by omega) (by decide), br_f ?_ hr⟩) (fun _ => hr)⟩
    rw [nI_clamp (by omega)] at z ⊢
    exact fun y => hi' ⟨z, y⟩
theorem et_xheld_s {x : Int32} {s : Nat} (hM : M ≤ 32) (hs : s < M) (h2 : st s = 2) (hx : re s = x) (hn : ∀ j, j < s → ¬ (st j = 2 ∧ re j = x)) (hp : post (nI s)) : wpX_heldSlot post (nI N, nI M, sd, an, nI h, tk, ac, sn, wd, nd, ns, st, se, re) x :=
  ⟨s + 1, et_xheld_sl hM hs h2 hx hp s 0 (by omega) (fun j _ => hn j)⟩
-- the deficit
theorem et_xun_l {x : Int32} (hM : M ≤ 32) (hp : post (nI (et_cn st se x M))) : ∀ d i, i + d = M → wX_unacknowledged_4 post x (nI N) (nI M) sd an (nI h) tk ac sn wd nd ns st se re (d + 1) (nI (et_cn st se x i)) (nI i) := by
  intro d
  induction d with
  | zero =>
    intro i hi
    have e : i = M := by omega
    subst e
    exact br_t (nI_le (by omega) (by omega)) hp
  | succ d ih =>
    intro i hi
    have hr := ih (i + 1) (by omega)
    have hc := nI_clamp (show i < 2 ^ 31 by omega)
    refine br_f (nI_ge (by omega) (by omega)) ⟨vp_in_nI (by omega) (by decide), br_c (fun z => ?_) (fun z => ⟨vp_in_nI (by omega) (by decide), br_c (fun y => ?_) (fun y => ?_)⟩)⟩
    · rw [hc] at z
      rw [et_cn_f (fun w => w.1 z)] at hr
      exact nm_r (nI_1 i) hr
    · rw [hc] at z y
      rw [et_cn_t z y] at hr
      exact nm_r (nI_1 _) (nm_r (nI_1 i) hr)
    · rw [hc] at z y
      rw [et_cn_f (fun w => y w.2)] at hr
      exact nm_r (nI_1 i) hr
theorem et_xun {x : Int32} (hM : M ≤ 32) (hp : post (nI (et_cn st se x M))) : wpX_unacknowledged post (nI N, nI M, sd, an, nI h, tk, ac, sn, wd, nd, ns, st, se, re) x :=
  ⟨M + 1, et_xun_l hM hp M 0 (by omega)⟩
-- is some process active, stained; is every slot FREE
theorem et_xact_nl (hN : N ≤ 8) (hp : post 0) : ∀ d i, i + d = N → (∀ j, i ≤ j → j < N → ac j = 0) → wX_anyActive_2 post (nI N) (nI M) sd an (nI h) tk ac sn wd nd ns st se re (d + 1) (nI i) := by
  intro d
  induction d with
  | zero => exact fun i hi _ => br_t (nI_le (by omega) (by omega)) hp
  | succ d ih =>
    intro i hi hn
    refine br_f (nI_ge (by omega) (by omega)) ⟨vp_in_nI (by omega) (by decide), br_t ?_ (nm_r (nI_1 i) (ih (i + 1) (by omega) (fun j hj => hn j (by omega))))⟩
    rw [nI_clamp (by omega)]; exact hn i (Nat.le_refl i) (by omega)
theorem et_xact_n (hN : N ≤ 8) (hn : ∀ j, j < N → ac j = 0) (hp : post 0) : wpX_anyActive post (nI N, nI M, sd, an, nI h, tk, ac, sn, wd, nd, ns, st, se, re) :=
  ⟨N + 1, et_xact_nl hN hp N 0 (by omega) (fun j _ => hn j)⟩
theorem et_xact_sl {s : Nat} (hN : N ≤ 8) (hs : s < N) (hc : ac s ≠ 0) (hp : post 1) : ∀ d i, i + d = s → wX_anyActive_2 post (nI N) (nI M) sd an (nI h) tk ac sn wd nd ns st se re (d + 1) (nI i) := by
  intro d
  induction d with
  | zero =>
    intro i hi
    have e : i = s := by omega
    subst e
    exact br_f (nI_ge (by omega) (by omega)) ⟨vp_in_nI (by omega) (by decide), br_f (by rw [nI_clamp (by omega)]; exact hc) hp⟩
  | succ d ih =>
    intro i hi
    exact br_f (nI_ge (by omega) (by omega)) ⟨vp_in_nI (by omega) (by decide), br_c (fun _ => nm_r (nI_1 i) (ih (i + 1) (by omega))) (fun _ => hp)⟩
theorem et_xact_s {s : Nat} (hN : N ≤ 8) (hs : s < N) (hc : ac s ≠ 0) (hp : post 1) : wpX_anyActive post (nI N, nI M, sd, an, nI h, tk, ac, sn, wd, nd, ns, st, se, re) :=
  ⟨s + 1, et_xact_sl hN hs hc hp s 0 (by omega)⟩
theorem et_xstn_nl (hN : N ≤ 8) (hp : post 0) : ∀ d i, i + d = N → (∀ j, i ≤ j → j < N → sn j = 0) → wX_anyStained_2 post (nI N) (nI M) sd an (nI h) tk ac sn wd nd ns st se re (d + 1) (nI i) := by
  intro d
  induction d with
  | zero => exact fun i hi _ => br_t (nI_le (by omega) (by omega)) hp
  | succ d ih =>
    intro i hi hn
    refine br_f (nI_ge (by omega) (by omega)) ⟨vp_in_nI (by omega) (by decide), br_t ?_ (nm_r (nI_1 i) (ih (i + 1) (by omega) (fun j hj => hn j (by omega))))⟩
    rw [nI_clamp (by omega)]; exact hn i (Nat.le_refl i) (by omega)
theorem et_xstn_n (hN : N ≤ 8) (hn : ∀ j, j < N → sn j = 0) (hp : post 0) : wpX_anyStained post (nI N, nI M, sd, an, nI h, tk, ac, sn, wd, nd, ns, st, se, re) :=
  ⟨N + 1, et_xstn_nl hN hp N 0 (by omega) (fun j _ => hn j)⟩
theorem et_xstn_sl {s : Nat} (hN : N ≤ 8) (hs : s < N) (hc : sn s ≠ 0) (hp : post 1) : ∀ d i, i + d = s → wX_anyStained_2 post (nI N) (nI M) sd an (nI h) tk ac sn wd nd ns st se re (d + 1) (nI i) := by
  intro d
  induction d with
  | zero =>
    intro i hi
    have e : i = s := by omega
    subst e
    exact br_f (nI_ge (by omega) (by omega)) ⟨vp_in_nI (by omega) (by decide), br_f (by rw [nI_clamp (by omega)]; exact hc) hp⟩
  | succ d ih =>
    intro i hi
    exact br_f (nI_ge (by omega) (by omega)) ⟨vp_in_nI (by omega) (by decide), br_c (fun _ => nm_r (nI_1 i) (ih (i + 1) (by omega))) (fun _ => hp)⟩
theorem et_xstn_s {s : Nat} (hN : N ≤ 8) (hs : s < N) (hc : sn s ≠ 0) (hp : post 1) : wpX_anyStained post (nI N, nI M, sd, an, nI h, tk, ac, sn, wd, nd, ns, st, se, re) :=
  ⟨s + 1, et_xstn_sl hN hs hc hp s 0 (by omega)⟩
theorem et_xfree_yl (hM : M ≤ 32) (hp : post 1) : ∀ d i, i + d = M → (∀ j, i ≤ j → j < M → st j = 0) → wX_everySlotFree_2 post (nI N) (nI M) sd an (nI h) tk ac sn wd nd ns st se re (d + 1) (nI i) := by
  intro d
  induction d with
  | zero => exact fun i hi _ => br_t (nI_le (by omega) (by omega)) hp
  | succ d ih =>
    intro i hi hn
    refine br_f (nI_ge (by omega) (by omega)) ⟨vp_in_nI (by omega) (by decide), br_t ?_ (nm_r (nI_1 i) (ih (i + 1) (by omega) (fun j hj => hn j (by omega))))⟩
    rw [nI_clamp (by omega)]; exact hn i (Nat.le_refl i) (by omega)
theorem et_xfree_y (hM : M ≤ 32) (hn : ∀ j, j < M → st j = 0) (hp : post 1) : wpX_everySlotFree post (nI N, nI M, sd, an, nI h, tk, ac, sn, wd, nd, ns, st, se, re) :=
  ⟨M + 1, et_xfree_yl hM hp M 0 (by omega) (fun j _ => hn j)⟩
theorem et_xfree_nl {s : Nat} (hM : M ≤ 32) (hs : s < M) (hc : st s ≠ 0) (hp : post 0) : ∀ d i, i + d = s → wX_everySlotFree_2 post (nI N) (nI M) sd an (nI h) tk ac sn wd nd ns st se re (d + 1) (nI i) := by
  intro d
  induction d with
  | zero =>
    intro i hi
    have e : i = s := by omega
    subst e
    exact br_f (nI_ge (by omega) (by omega)) ⟨vp_in_nI (by omega) (by decide), br_f (by rw [nI_clamp (by omega)]; exact hc) hp⟩
  | succ d ih =>
    intro i hi
    exact br_f (nI_ge (by omega) (by omega)) ⟨vp_in_nI (by omega) (by decide), br_c (fun _ => nm_r (nI_1 i) (ih (i + 1) (by omega))) (fun _ => hp)⟩
theorem et_xfree_n {s : Nat} (hM : M ≤ 32) (hs : s < M) (hc : st s ≠ 0) (hp : post 0) : wpX_everySlotFree post (nI N, nI M, sd, an, nI h, tk, ac, sn, wd, nd, ns, st, se, re) :=
  ⟨s + 1, et_xfree_nl hM hs hc hp s 0 (by omega)⟩
-- sums and the mask
theorem et_xsmW_l (hN : N ≤ 8) (hp : post (et_sm wd N)) : ∀ d i, i + d = N → wX_sumOverProcesses__workDone_4 post (nI N) (nI M) sd an (nI h) tk ac sn wd nd ns st se re (d + 1) (et_sm wd i) (nI i) := by
  intro d
  induction d with
  | zero =>
    intro i hi
    have e : i = N := by omega
    subst e
    exact br_t (nI_le (by omega) (by omega)) hp
  | succ d ih =>
    intro i hi
    exact br_f (nI_ge (by omega) (by omega)) ⟨vp_in_nI (by omega) (by decide), nm_r (by rw [nI_clamp (by omega)]; rfl) (nm_r (nI_1 i) (ih (i + 1) (by omega)))⟩
theorem et_xsmW (hN : N ≤ 8) (hp : post (et_sm wd N)) : wpX_sumOverProcesses__workDone post (nI N, nI M, sd, an, nI h, tk, ac, sn, wd, nd, ns, st, se, re) :=
  ⟨N + 1, et_xsmW_l hN hp N 0 (by omega)⟩
theorem et_xsmD_l (hN : N ≤ 8) (hp : post (et_sm nd N)) : ∀ d i, i + d = N → wX_sumOverProcesses__notesDelivered_4 post (nI N) (nI M) sd an (nI h) tk ac sn wd nd ns st se re (d + 1) (et_sm nd i) (nI i) := by
  intro d
  induction d with
  | zero =>
    intro i hi
    have e : i = N := by omega
    subst e
    exact br_t (nI_le (by omega) (by omega)) hp
  | succ d ih =>
    intro i hi
    exact br_f (nI_ge (by omega) (by omega)) ⟨vp_in_nI (by omega) (by decide), nm_r (by rw [nI_clamp (by omega)]; rfl) (nm_r (nI_1 i) (ih (i + 1) (by omega)))⟩
theorem et_xsmD (hN : N ≤ 8) (hp : post (et_sm nd N)) : wpX_sumOverProcesses__notesDelivered post (nI N, nI M, sd, an, nI h, tk, ac, sn, wd, nd, ns, st, se, re) :=
  ⟨N + 1, et_xsmD_l hN hp N 0 (by omega)⟩
theorem et_xmk_l (hN : N ≤ 8) (hp : post (nI (et_mk nd N))) : ∀ d i, 1 ≤ i → i + d = N → wX_maskOfReached_4 post (nI N) (nI M) sd an (nI h) tk ac sn wd nd ns st se re (d + 1) (nI (et_mk nd i)) (nI i) := by
  intro d
  induction d with
  | zero =>
    intro i h1 hi
    have e : i = N := by omega
    subst e
    exact br_t (nI_le (by omega) (by omega)) hp
  | succ d ih =>
    intro i h1 hi
    have hr := ih (i + 1) (by omega) (by omega)
    have hc := nI_clamp (show i < 2 ^ 31 by omega)
    refine br_f (nI_ge (by omega) (by omega)) ⟨vp_in_nI (by omega) (by decide), br_c (fun z => ?_) (fun z => ?_)⟩
    · rw [hc] at z
      rw [et_mk_f (fun w => by
        rcases w with w | w
        · omega
        · exact absurd z (Int32.not_le.mpr w))] at hr
      exact nm_r (nI_1 i) hr
    · rw [hc] at z
      rw [et_mk_t (Or.inr (Int32.not_le.mp z))] at hr
      refine nm_r ?_ (nm_r (nI_1 i) hr)
      rw [et_sh i (by omega), et_ior i (by omega) _ (et_mk_lt nd i)]
theorem et_xmk (hN0 : 1 ≤ N) (hN : N ≤ 8) (hp : post (nI (et_mk nd N))) : wpX_maskOfReached post (nI N, nI M, sd, an, nI h, tk, ac, sn, wd, nd, ns, st, se, re) := by
  have := et_xmk_l (h := h) (sd := sd) (an := an) (tk := tk) (ac := ac) (sn := sn) (wd := wd) (ns := ns) (st := st) (se := se) (re := re) (M := M) hN hp (N - 1) 1 (by omega) (by omega)
  rw [et_mk_1] at this
  exact ⟨_, this⟩
end ETX
end
section
section ETY
variable {N M h : Nat} {sd t r tk : Int32} {ac sn st se re T : Nat → Int32} {post : Int32 → Prop}
theorem et_ypar_nl {x : Int32} (hM : M ≤ 32) (hp : post (-1)) : ∀ d i, i + d = M → (∀ j, i ≤ j → j < M → ¬ (st j = 2 ∧ re j = x)) → wY_parent_2 post x (nI N) (nI M) sd t r (nI h) tk st se re ac sn T (d + 1) (nI i) := by
  intro d
  induction d with
  | zero => exact fun i hi _ => br_t (nI_le (by omega) (by omega)) hp
  | succ d ih =>
    intro i hi hn
    have hr := nm_r (P := fun y => wY_parent_2 post x (nI N) (nI M) sd t r (nI h) tk st se re ac sn T (d + 1) y) (nI_1 i) (ih (i + 1) (by omega) (fun j hj => hn j (by omega)))
    have hi' := hn i (Nat.le_refl i) (by omega)
    refine br_f (nI_ge (by omega) (by omega)) ⟨vp_in_nI (by omega) (by decide), br_c (fun z => ⟨vp_in_nI (by omega) (by decide), br_f ?_ hr⟩) (fun _ => hr)⟩
    rw [nI_clamp (by omega)] at z ⊢
    exact fun y => hi' ⟨z, y⟩
theorem et_ypar_n {x : Int32} (hM : M ≤ 32) (hn : ∀ j, j < M → ¬ (st j = 2 ∧ re j = x)) (hp : post (-1)) : wpY_parent post (nI N, nI M, sd, t, r, nI h, tk, st, se, re, ac, sn, T) x :=
  ⟨M + 1, et_ypar_nl hM hp M 0 (by omega) (fun j _ => hn j)⟩
theorem et_ypar_sl {x : Int32} {s : Nat} (hM : M ≤ 32) (hs : s < M) (h2 : st s = 2) (hx : re s = x) (hp : post (se s)) : ∀ d i, i + d = s → (∀ j, i ≤ j → j < s → ¬ (st j = 2 ∧ re j = x)) → wY_parent_2 post x (nI N) (nI M) sd t r (nI h) tk st se re ac sn T (d + 1) (nI i) := by
  intro d
  induction d with
  | zero =>
    intro i hi _
    have e : i = s := by omega
    subst e
    refine br_f (nI_ge (by omega) (by omega)) ⟨vp_in_nI (by omega) (by decide), br_t ?_ ⟨vp_in_nI (by omega) (by decide), br_t ?_ ⟨vp_in_nI (by omega) (by decide), ?_⟩⟩⟩
    · rw [nI_clamp (by omega)]; exact h2
    · rw [nI_clamp (by omega)]; exact hx
    · rw [nI_clamp (by omega)]; exact hp
  | succ d ih =>
    intro i hi hn
    have hr := nm_r (P := fun y => wY_parent_2 post x (nI N) (nI M) sd t r (nI h) tk st se re ac sn T (d + 1) y) (nI_1 i) (ih (i + 1) (by omega) (fun j hj => hn j (by omega)))
    have hi' := hn i (Nat.le_refl i) (by omega)
    refine br_f (nI_ge (by omega) (by omega)) ⟨vp_in_nI (by omega) (by decide), br_c (fun z => ⟨vp_in_nI (by omega) (by decide), br_f ?_ hr⟩) (fun _ => hr)⟩
    rw [nI_clamp (by omega)] at z ⊢
    exact fun y => hi' ⟨z, y⟩
theorem et_ypar_s {x : Int32} {s : Nat} (hM : M ≤ 32) (hs : s < M) (h2 : st s = 2) (hx : re s = x) (hn : ∀ j, j < s → ¬ (st j = 2 ∧ re j = x)) (hp : post (se s)) : wpY_parent post (nI N, nI M, sd, t, r, nI h, tk, st, se, re, ac, sn, T) x :=
  ⟨s + 1, et_ypar_sl hM hs h2 hx hp s 0 (by omega) (fun j _ => hn j)⟩
-- no process active
theorem et_yact_nl (hN : N ≤ 8) (hp : post 1) : ∀ d i, i + d = N → (∀ j, i ≤ j → j < N → ac j = 0) → wY_noneActive_2 post (nI N) (nI M) sd t r (nI h) tk st se re ac sn T (d + 1) (nI i) := by
  intro d
  induction d with
  | zero => exact fun i hi _ => br_t (nI_le (by omega) (by omega)) hp
  | succ d ih =>
    intro i hi hn
    refine br_f (nI_ge (by omega) (by omega)) ⟨vp_in_nI (by omega) (by decide), br_t ?_ (nm_r (nI_1 i) (ih (i + 1) (by omega) (fun j hj => hn j (by omega))))⟩
    rw [nI_clamp (by omega)]; exact hn i (Nat.le_refl i) (by omega)
theorem et_yact_n (hN : N ≤ 8) (hn : ∀ j, j < N → ac j = 0) (hp : post 1) : wpY_noneActive post (nI N, nI M, sd, t, r, nI h, tk, st, se, re, ac, sn, T) :=
  ⟨N + 1, et_yact_nl hN hp N 0 (by omega) (fun j _ => hn j)⟩
theorem et_yact_sl {s : Nat} (hN : N ≤ 8) (hs : s < N) (hc : ac s ≠ 0) (hp : post 0) : ∀ d i, i + d = s → wY_noneActive_2 post (nI N) (nI M) sd t r (nI h) tk st se re ac sn T (d + 1) (nI i) := by
  intro d
  induction d with
  | zero =>
    intro i hi
    have e : i = s := by omega
    subst e
    exact br_f (nI_ge (by omega) (by omega)) ⟨vp_in_nI (by omega) (by decide), br_f (by rw [nI_clamp (by omega)]; exact hc) hp⟩
  | succ d ih =>
    intro i hi
    exact br_f (nI_ge (by omega) (by omega)) ⟨vp_in_nI (by omega) (by decide), br_c (fun _ => nm_r (nI_1 i) (ih (i + 1) (by omega))) (fun _ => hp)⟩
theorem et_yact_s {s : Nat} (hN : N ≤ 8) (hs : s < N) (hc : ac s ≠ 0) (hp : post 0) : wpY_noneActive post (nI N, nI M, sd, t, r, nI h, tk, st, se, re, ac, sn, T) :=
  ⟨s + 1, et_yact_sl hN hs hc hp s 0 (by omega)⟩
-- the deficit
theorem et_yun_l {x : Int32} (hM : M ≤ 32) (hp : post (nI (et_cn st se x M))) : ∀ d i, i + d = M → wY_deficit_18 post x (nI N) (nI M) sd t r (nI h) tk st se re ac sn T (d + 1) (nI (et_cn st se x i)) (nI i) := by
  intro d
  induction d with
  | zero =>
    intro i hi
    have e : i = M := by omega
    subst e
    exact br_t (nI_le (by omega) (by omega)) hp
  | succ d ih =>
    intro i hi
    have hr := ih (i + 1) (by omega)
    have hc := nI_clamp (show i < 2 ^ 31 by omega)
    refine br_f (nI_ge (by omega) (by omega)) ⟨vp_in_nI (by omega) (by decide), br_c (fun z => ?_) (fun z => ⟨vp_in_nI (by omega) (by decide), br_c (fun y => ?_) (fun y => ?_)⟩)⟩
    · rw [hc] at z
      rw [et_cn_f (fun w => w.1 z)] at hr
      exact nm_r (nI_1 i) hr
    · rw [hc] at z y
      rw [et_cn_t z y] at hr
      exact nm_r (nI_1 _) (nm_r (nI_1 i) hr)
    · rw [hc] at z y
      rw [et_cn_f (fun w => y w.2)] at hr
      exact nm_r (nI_1 i) hr
theorem et_yun {p : Nat} (hN : N ≤ 8) (hM : M ≤ 32) (hj : p < N) (hp : post (nI (et_cn st se (nI p) M))) : wpY_deficit post (nI N, nI M, sd, t, r, nI h, tk, st, se, re, ac, sn, T) (nI p) :=
  br_f (nI_pos (by omega)) (br_t (nI_lt hj (by omega)) ⟨M + 1, et_yun_l hM hp M 0 (by omega)⟩)
theorem et_yun_f {x : Int32} (hx : x < 0 ∨ nI N ≤ x) (hp : post (-1)) : wpY_deficit post (nI N, nI M, sd, t, r, nI h, tk, st, se, re, ac, sn, T) x := by
  by_cases h0 : x < 0
  · exact br_t h0 hp
  · exact br_f h0 (br_f (Int32.not_lt.mpr (hx.resolve_left h0)) hp)
end ETY
section ETZ
variable {N M h : Nat} {sd t r tk : Int32} {ac sn st se re T : Nat → Int32} {post : SY → Prop}
-- the loop of homecoming
theorem et_yhl_n {x : Int32} (hM : M ≤ 32) (hp : post (nI N, nI M, sd, t, r, nI h, tk, st, se, re, ac, sn, T)) : ∀ d i, i + d = M → (∀ j, i ≤ j → j < M → ¬ (st j = 2 ∧ re j = x)) → wY_homecoming_24 post x (nI N) (nI M) sd t r (nI h) tk (d + 1) (nI i) st se re ac sn T := by
  intro d
  induction d with
  | zero => exact fun i hi _ => br_t (nI_le (by omega) (by omega)) hp
  | succ d ih =>
    intro i hi hn
    have hr := nm_r (P := fun y => wY_homecoming_24 post x (nI N) (nI M) sd t r (nI h) tk (d + 1) y st se re ac sn T) (nI_1 i) (ih (i + 1) (by omega) (fun j hj => hn j (by omega)))
    have hi' := hn i (Nat.le_refl i) (by omega)
    refine br_f (nI_ge (by omega) (by omega)) ⟨vp_in_nI (by omega) (by decide), br_c (fun z => ⟨vp_in_nI (by omega) (by decide), br_f ?_ hr⟩) (fun _ => hr)⟩
    rw [nI_clamp (by omega)] at z ⊢
    exact fun y => hi' ⟨z, y⟩
theorem et_yhl_s {x : Int32} {s : Nat} (hM : M ≤ 32) (hs : s < M) (h2 : st s = 2) (hx : re s = x) (hp : post (nI N, nI M, sd, t, r, nI h, tk, upd st s 3, se, re, ac, sn, T)) : ∀ d i, i + d = M → i ≤ s → (∀ j, i ≤ j → j < M → j ≠ s → ¬ (st j = 2 ∧ re j = x)) → wY_homecoming_24 post x (nI N) (nI M) sd t r (nI h) tk (d + 1) (nI i) st se re ac sn T := by
  intro d
  induction d with
  | zero => exact fun i hi h1 _ => absurd hi (by omega)
  | succ d ih =>
    intro i hi h1 hn
    by_cases e : i = s
    · subst e
      have hr := et_yhl_n (post := post) (x := x) (st := upd st i 3) hM hp d (i + 1) (by omega) (fun j hj hj' => by rw [pk_un (by omega)]; exact hn j (by omega) hj' (by omega))
      refine br_f (nI_ge (by omega) (by omega)) ⟨vp_in_nI (by omega) (by decide), br_t ?_ ⟨vp_in_nI (by omega) (by decide), br_t ?_ ⟨vp_in_nI (by omega) (by decide), nm_r (by rw [nI_clamp (by omega)]) (nm_r (nI_1 i) hr)⟩⟩⟩
      · rw [nI_clamp (by omega)]; exact h2
      · rw [nI_clamp (by omega)]; exact hx
    · have hr := nm_r (P := fun y => wY_homecoming_24 post x (nI N) (nI M) sd t r (nI h) tk (d + 1) y st se re ac sn T) (nI_1 i) (ih (i + 1) (by omega) (by omega) (fun j hj => hn j (by omega)))
      have hi' := hn i (Nat.le_refl i) (by omega) e
      refine br_f (nI_ge (by omega) (by omega)) ⟨vp_in_nI (by omega) (by decide), br_c (fun z => ⟨vp_in_nI (by omega) (by decide), br_f ?_ hr⟩) (fun _ => hr)⟩
      rw [nI_clamp (by omega)] at z ⊢
      exact fun y => hi' ⟨z, y⟩
-- the loop of the tree rule
theorem et_ytl_0 (hM : M ≤ 32) (hp : post (nI N, nI M, sd, t, r, nI h, tk, st, se, re, ac, sn, T)) : ∀ d i, i + d = M → wY_treeRule_22 post (nI N) (nI M) sd t r (nI h) tk st se re ac sn T (d + 1) 0 (nI i) := by
  intro d
  induction d with
  | zero => exact fun i hi => br_t (nI_le (by omega) (by omega)) (br_t rfl hp)
  | succ d ih =>
    intro i hi
    have hr := nm_r (P := fun y => wY_treeRule_22 post (nI N) (nI M) sd t r (nI h) tk st se re ac sn T (d + 1) 0 y) (nI_1 i) (ih (i + 1) (by omega))
    exact br_f (nI_ge (by omega) (by omega)) ⟨vp_in_nI (by omega) (by decide), br_c (fun _ => hr) (fun _ => hr)⟩
theorem et_ytl_1 (hM : M ≤ 32) (hp : post (nI N, nI M, sd, 1, r, nI h, tk, st, se, re, ac, sn, T)) : ∀ d i, i + d = M → (∀ j, i ≤ j → j < M → st j = 0) → wY_treeRule_22 post (nI N) (nI M) sd t r (nI h) tk st se re ac sn T (d + 1) 1 (nI i) := by
  intro d
  induction d with
  | zero => exact fun i hi _ => br_t (nI_le (by omega) (by omega)) (br_f et_n10 hp)
  | succ d ih =>
    intro i hi hn
    refine br_f (nI_ge (by omega) (by omega)) ⟨vp_in_nI (by omega) (by decide), br_t ?_ (nm_r (nI_1 i) (ih (i + 1) (by omega) (fun j hj => hn j (by omega))))⟩
    rw [nI_clamp (by omega)]; exact hn i (Nat.le_refl i) (by omega)
theorem et_ytl_n {s : Nat} (hM : M ≤ 32) (hs : s < M) (hc : st s ≠ 0) (hp : post (nI N, nI M, sd, t, r, nI h, tk, st, se, re, ac, sn, T)) : ∀ d i, i + d = M → i ≤ s → wY_treeRule_22 post (nI N) (nI M) sd t r (nI h) tk st se re ac sn T (d + 1) 1 (nI i) := by
  intro d
  induction d with
  | zero => exact fun i hi h1 => absurd hi (by omega)
  | succ d ih =>
    intro i hi h1
    by_cases e : i = s
    · subst e
      exact br_f (nI_ge (by omega) (by omega)) ⟨vp_in_nI (by omega) (by decide), br_f (by rw [nI_clamp (by omega)]; exact hc) (nm_r (nI_1 i) (et_ytl_0 hM hp d (i + 1) (by omega)))⟩
    · exact br_f (nI_ge (by omega) (by omega)) ⟨vp_in_nI (by omega) (by decide), br_c (fun _ => nm_r (nI_1 i) (ih (i + 1) (by omega) (by omega))) (fun _ => nm_r (nI_1 i) (et_ytl_0 hM hp d (i + 1) (by omega)))⟩
end ETZ
end
section
section ETH
/-- engaged -/
def et_eng (M : Nat) (sd t : Int32) (st re : Nat → Int32) (p : Nat) : Prop :=
  (p = 0 ∧ sd ≠ 0 ∧ t = 0) ∨ (p ≠ 0 ∧ ∃ j, j < M ∧ st j = 2 ∧ re j = nI p)
variable {N M h : Nat} {sd an tk t r : Int32} {ac sn wd nd ns st se re : Nat → Int32}
theorem et_xhome_y {post : SX → Prop} {p s : Nat} (hN : N ≤ 8) (hM : M ≤ 32) (hpN : p < N) (hs : s < M) (h2 : st s = 2) (hr : re s = nI p) (hn : ∀ j, j < s → ¬ (st j = 2 ∧ re j = nI p)) (ha : ac p = 0) (hd : et_cn st se (nI p) M = 0) (hp : post (nI N, nI M, sd, an, nI h, tk, ac, sn, wd, nd, ns, upd st s 3, se, re)) : wpX_comeHome post (nI N, nI M, sd, an, nI h, tk, ac, sn, wd, nd, ns, st, se, re) (nI p) := by
  unfold wpX_comeHome
  refine et_xheld_s hM hs h2 hr hn (br_f (et_m1 (by omega)) ⟨vp_in_nI (by omega) (by decide), br_t ?_ (et_xun hM (br_t ?_ ⟨vp_in_nI (by omega) (by decide), nm_r (by rw [nI_clamp (by omega)]) hp⟩))⟩)
  · rw [nI_clamp (by omega)]; exact ha
  · rw [hd]; exact nI_0
theorem et_xhome_n {post : SX → Prop} {p : Nat} (hN : N ≤ 8) (hM : M ≤ 32) (hpN : p < N) (hx : (∀ j, j < M → ¬ (st j = 2 ∧ re j = nI p)) ∨ ac p ≠ 0 ∨ et_cn st se (nI p) M ≠ 0) (hp : post (nI N, nI M, sd, an, nI h, tk, ac, sn, wd, nd, ns, st, se, re)) : wpX_comeHome post (nI N, nI M, sd, an, nI h, tk, ac, sn, wd, nd, ns, st, se, re) (nI p) := by
  unfold wpX_comeHome
  rcases et_first (fun j => st j = 2 ∧ re j = nI p) M with h0 | ⟨s, hs, ⟨h2, hr⟩, hn⟩
  · exact et_xheld_n hM h0 (br_t rfl hp)
  · have hx' := hx.resolve_left (fun z => z s hs ⟨h2, hr⟩)
    refine et_xheld_s hM hs h2 hr hn (br_f (et_m1 (by omega)) ⟨vp_in_nI (by omega) (by decide), br_c (fun z => et_xun hM (br_f ?_ hp)) (fun _ => hp)⟩)
    rw [nI_clamp (by omega)] at z
    have hc := hx'.resolve_left (fun y => y z)
    exact nI_ne0 (Nat.pos_of_ne_zero hc) (by have := et_cn_le st se (nI p) M; omega)
theorem et_xtree_y {post : SX → Prop} (hN : N ≤ 8) (hM : M ≤ 32) (hsd : sd ≠ 0) (hA : ∀ p, p < N → ac p = 0) (hF : ∀ j, j < M → st j = 0) (hp : post (nI N, nI M, sd, an ||| 1, nI h, tk, ac, sn, wd, nd, ns, st, se, re)) : wpX_applyTreeRule post (nI N, nI M, sd, an, nI h, tk, ac, sn, wd, nd, ns, st, se, re) :=
  br_f hsd (et_xact_n hN hA (br_t rfl (et_xfree_y hM hF (br_f et_n10 (nm_e hp)))))
theorem et_xtree_n {post : SX → Prop} (hN : N ≤ 8) (hM : M ≤ 32) (hx : sd = 0 ∨ (∃ p, p < N ∧ ac p ≠ 0) ∨ (∃ j, j < M ∧ st j ≠ 0)) (hp : post (nI N, nI M, sd, an, nI h, tk, ac, sn, wd, nd, ns, st, se, re)) : wpX_applyTreeRule post (nI N, nI M, sd, an, nI h, tk, ac, sn, wd, nd, ns, st, se, re) := by
  by_cases h0 : sd = 0
  · exact br_t h0 hp
  · refine br_f h0 ?_
    rcases et_first (fun j => ac j ≠ 0) N with hA | ⟨p, hpN, hA, -⟩
    · have hA' : ∀ j, j < N → ac j = 0 := fun j hj => Decidable.not_not.mp (hA j hj)
      rcases hx.resolve_left h0 with ⟨p, hpN, hy⟩ | ⟨s, hs, hy⟩
      · exact absurd hy (hA p hpN)
      · exact et_xact_n hN hA' (br_t rfl (et_xfree_n hM hs hy (br_t rfl hp)))
    · exact et_xact_s hN hpN hA (br_f et_n10 hp)
theorem et_xeng_t {post : Int32 → Prop} {q : Nat} (hN : N ≤ 8) (hM : M ≤ 32) (hq : q < N) (ht : et_b t) (hr : et_b r) (he : et_eng M sd t st re q) (hp : post 1) : wpX_isEngaged post (nI N, nI M, sd, et_an t r, nI h, tk, ac, sn, wd, nd, ns, st, se, re) (nI q) := by
  unfold wpX_isEngaged
  rcases he with ⟨rfl, h1, h2⟩ | ⟨h0, j, hj, h2, h3⟩
  · exact br_t nI_0 (br_f h1 (et_xA_f ((et_an1 ht hr).mpr h2) (br_t rfl hp)))
  · refine br_f (nI_ne0 (Nat.pos_of_ne_zero h0) (by omega)) ?_
    rcases et_first (fun j => st j = 2 ∧ re j = nI q) M with g0 | ⟨s, hs, ⟨g2, gr⟩, gn⟩
    · exact absurd ⟨h2, h3⟩ (g0 j hj)
    · exact et_xheld_s hM hs g2 gr gn (br_f (et_m1 (by omega)) hp)
theorem et_xeng_f {post : Int32 → Prop} {q : Nat} (hN : N ≤ 8) (hM : M ≤ 32) (hq : q < N) (ht : et_b t) (hr : et_b r) (he : ¬ et_eng M sd t st re q) (hp : post 0) : wpX_isEngaged post (nI N, nI M, sd, et_an t r, nI h, tk, ac, sn, wd, nd, ns, st, se, re) (nI q) := by
  unfold wpX_isEngaged
  by_cases h0 : q = 0
  · subst h0
    refine br_t nI_0 (br_c (fun _ => hp) (fun h1 => et_xA_t ?_ (br_f et_n10 hp)))
    exact fun z => he (Or.inl ⟨rfl, h1, (et_an1 ht hr).mp z⟩)
  · exact br_f (nI_ne0 (Nat.pos_of_ne_zero h0) (by omega)) (et_xheld_n hM (fun j hj z => he (Or.inr ⟨h0, j, hj, z.1, z.2⟩)) (br_t rfl hp))
theorem et_xring_y {post : Int32 → Prop} (hN : N ≤ 8) (hM : M ≤ 32) (h1 : tk = 0) (h2 : ∀ p, p < N → sn p = 0) (h3 : ∀ p, p < N → ac p = 0) (h4 : ∀ j, j < M → st j ≠ 1) (hp : post 1) : wpX_ringFoundQuiet post (nI N, nI M, sd, an, nI h, tk, ac, sn, wd, nd, ns, st, se, re) :=
  br_t h1 (et_xstn_n hN h2 (br_t rfl (et_xact_n hN h3 (br_t rfl (et_xlow_n hM h4 (br_t rfl hp))))))
theorem et_xring_n {post : Int32 → Prop} (hN : N ≤ 8) (hM : M ≤ 32) (hx : tk ≠ 0 ∨ (∃ p, p < N ∧ sn p ≠ 0) ∨ (∃ p, p < N ∧ ac p ≠ 0) ∨ (∃ j, j < M ∧ st j = 1)) (hp : post 0) : wpX_ringFoundQuiet post (nI N, nI M, sd, an, nI h, tk, ac, sn, wd, nd, ns, st, se, re) := by
  by_cases h1 : tk = 0
  · refine br_t h1 ?_
    rcases et_first (fun j => sn j ≠ 0) N with hA | ⟨p, hpN, hA, -⟩
    · refine et_xstn_n hN (fun j hj => Decidable.not_not.mp (hA j hj)) (br_t rfl ?_)
      rcases et_first (fun j => ac j ≠ 0) N with hB | ⟨p, hpN, hB, -⟩
      · refine et_xact_n hN (fun j hj => Decidable.not_not.mp (hB j hj)) (br_t rfl ?_)
        rcases et_first (fun j => st j = 1) M with hC | ⟨s, hs, hC, hn⟩
        · rcases hx with hx | ⟨p, hpN, hx⟩ | ⟨p, hpN, hx⟩ | ⟨j, hj, hx⟩
          · exact absurd h1 hx
          · exact absurd hx (hA p hpN)
          · exact absurd hx (hB p hpN)
          · exact absurd hx (hC j hj)
        · exact et_xlow_s hM hs hC hn (br_f (et_m1 (by omega)) hp)
      · exact et_xact_s hN hpN hB (br_f et_n10 hp)
    · exact et_xstn_s hN hpN hA (br_f et_n10 hp)
  · exact br_f h1 hp
end ETH
end
section
section ETM
variable {N M h : Nat} {sd tk t r : Int32} {ac sn wd nd ns st se re T : Nat → Int32}
theorem et_yhome_y {post : SY → Prop} {p s : Nat} (hN : N ≤ 8) (hM : M ≤ 32) (hpN : p < N) (h0 : p ≠ 0) (hs : s < M) (h2 : st s = 2) (hr : re s = nI p) (hu : ∀ j, j < M → j ≠ s → ¬ (st j = 2 ∧ re j = nI p)) (ha : ac p = 0) (hd : et_cn st se (nI p) M = 0) (hp : post (nI N, nI M, sd, t, r, nI h, tk, upd st s 3, se, re, ac, sn, T)) : wpY_homecoming post (nI N, nI M, sd, t, r, nI h, tk, st, se, re, ac, sn, T) (nI p) := by
  unfold wpY_homecoming
  refine br_f (nI_ne0 (Nat.pos_of_ne_zero h0) (by omega)) ⟨vp_in_nI (by omega) (by decide), br_t ?_ (et_yun hN hM hpN (br_t ?_ ⟨M + 1, et_yhl_s hM hs h2 hr hp M 0 (by omega) (by omega) (fun j _ => hu j)⟩))⟩
  · rw [nI_clamp (by omega)]; exact ha
  · rw [hd]; exact nI_0
theorem et_yhome_n {post : SY → Prop} {p : Nat} (hN : N ≤ 8) (hM : M ≤ 32) (hpN : p < N) (hx : p = 0 ∨ (∀ j, j < M → ¬ (st j = 2 ∧ re j = nI p)) ∨ ac p ≠ 0 ∨ et_cn st se (nI p) M ≠ 0) (hp : post (nI N, nI M, sd, t, r, nI h, tk, st, se, re, ac, sn, T)) : wpY_homecoming post (nI N, nI M, sd, t, r, nI h, tk, st, se, re, ac, sn, T) (nI p) := by
  unfold wpY_homecoming
  by_cases h0 : p = 0
  · subst h0; exact br_t nI_0 hp
  · refine br_f (nI_ne0 (Nat.pos_of_ne_zero h0) (by omega)) ⟨vp_in_nI (by omega) (by decide), br_c (fun z => et_yun hN hM hpN (br_c (fun y => ?_) (fun _ => hp))) (fun _ => hp)⟩
    rw [nI_clamp (by omega)] at z
    have hc : et_cn st se (nI p) M = 0 := (nI_eq (by have := et_cn_le st se (nI p) M; omega) (by decide)).mp y
    rcases hx.resolve_left h0 with g | g | g
    · exact ⟨M + 1, et_yhl_n hM hp M 0 (by omega) (fun j _ => g j)⟩
    · exact absurd z g
    · exact absurd hc g
theorem et_ytree_y {post : SY → Prop} (hN : N ≤ 8) (hM : M ≤ 32) (hsd : sd ≠ 0) (hA : ∀ p, p < N → ac p = 0) (hF : ∀ j, j < M → st j = 0) (hp : post (nI N, nI M, sd, 1, r, nI h, tk, st, se, re, ac, sn, T)) : wpY_treeRule post (nI N, nI M, sd, t, r, nI h, tk, st, se, re, ac, sn, T) :=
  br_f hsd (et_yact_n hN hA (br_f et_n10 ⟨M + 1, et_ytl_1 hM hp M 0 (by omega) (fun j _ => hF j)⟩))
theorem et_ytree_n {post : SY → Prop} (hN : N ≤ 8) (hM : M ≤ 32) (hx : sd = 0 ∨ (∃ p, p < N ∧ ac p ≠ 0) ∨ (∃ j, j < M ∧ st j ≠ 0)) (hp : post (nI N, nI M, sd, t, r, nI h, tk, st, se, re, ac, sn, T)) : wpY_treeRule post (nI N, nI M, sd, t, r, nI h, tk, st, se, re, ac, sn, T) := by
  by_cases h0 : sd = 0
  · exact br_t h0 ⟨M + 1, et_ytl_0 hM hp M 0 (by omega)⟩
  · refine br_f h0 ?_
    rcases et_first (fun j => ac j ≠ 0) N with hA | ⟨p, hpN, hA, -⟩
    · have hA' : ∀ j, j < N → ac j = 0 := fun j hj => Decidable.not_not.mp (hA j hj)
      rcases hx.resolve_left h0 with ⟨p, hpN, hy⟩ | ⟨s, hs, hy⟩
      · exact absurd hy (hA p hpN)
      · exact et_yact_n hN hA' (br_f et_n10 ⟨M + 1, et_ytl_n hM hs hy hp M 0 (by omega) (by omega)⟩)
    · exact et_yact_s hN hpN hA (br_t rfl ⟨M + 1, et_ytl_0 hM hp M 0 (by omega)⟩)
theorem et_yeng_t {post : Int32 → Prop} {q : Nat} (hN : N ≤ 8) (hM : M ≤ 32) (hq : q < N) (I : et_Inv N M sd t ac st se re) (he : et_eng M sd t st re q) (hp : post 1) : wpY_engaged post (nI N, nI M, sd, t, r, nI h, tk, st, se, re, ac, sn, T) (nI q) := by
  unfold wpY_engaged
  rcases he with ⟨rfl, h1, h2⟩ | ⟨h0, j, hj, h2, h3⟩
  · exact br_t nI_0 (br_f h1 (br_t h2 hp))
  · refine br_f (nI_ne0 (Nat.pos_of_ne_zero h0) (by omega)) ?_
    rcases et_first (fun j => st j = 2 ∧ re j = nI q) M with g0 | ⟨s, hs, ⟨g2, gr⟩, gn⟩
    · exact absurd ⟨h2, h3⟩ (g0 j hj)
    · obtain ⟨⟨a, ha, ea⟩, -⟩ := I.2.1 s hs (by rw [g2]; exact et_n20)
      refine et_ypar_s hM hs g2 gr gn (br_f ?_ hp)
      rw [ea]; exact et_m1 (by omega)
theorem et_yeng_f {post : Int32 → Prop} {q : Nat} (hN : N ≤ 8) (hM : M ≤ 32) (hq : q < N) (he : ¬ et_eng M sd t st re q) (hp : post 0) : wpY_engaged post (nI N, nI M, sd, t, r, nI h, tk, st, se, re, ac, sn, T) (nI q) := by
  unfold wpY_engaged
  by_cases h0 : q = 0
  · subst h0
    exact br_t nI_0 (br_c (fun _ => hp) (fun h1 => br_f (fun z => he (Or.inl ⟨rfl, h1, z⟩)) hp))
  · exact br_f (nI_ne0 (Nat.pos_of_ne_zero h0) (by omega)) (et_ypar_n hM (fun j hj z => he (Or.inr ⟨h0, j, hj, z.1, z.2⟩)) (br_t rfl hp))
/-- homecoming on both sides -/
theorem et_home (hN : N ≤ 8) (hM : M ≤ 32) {p : Nat} (hpN : p < N) (I : et_Inv N M sd t ac st se re) : ∃ st' : Nat → Int32, et_Inv N M sd t ac st' se re ∧ (∀ (an : Int32) (post : SX → Prop), post (nI N, nI M, sd, an, nI h, tk, ac, sn, wd, nd, ns, st', se, re) → wpX_comeHome post (nI N, nI M, sd, an, nI h, tk, ac, sn, wd, nd, ns, st, se, re) (nI p)) ∧ (∀ post : SY → Prop, post (nI N, nI M, sd, t, r, nI h, tk, st', se, re, ac, sn, T) → wpY_homecoming post (nI N, nI M, sd, t, r, nI h, tk, st, se, re, ac, sn, T) (nI p)) := by
  rcases et_first (fun j => st j = 2 ∧ re j = nI p) M with h0 | ⟨s, hs, ⟨h2, hr⟩, hn⟩
  · exact ⟨st, I, fun an post hp => et_xhome_n hN hM hpN (Or.inl h0) hp, fun post hp => et_yhome_n hN hM hpN (Or.inr (Or.inl h0)) hp⟩
  · by_cases ha : ac p = 0
    · by_cases hd : et_cn st se (nI p) M = 0
      · have hz : re s ≠ 0 := I.2.2.1 s hs h2
        have p0 : p ≠ 0 := fun z => hz (by rw [hr, z]; exact nI_0)
        refine ⟨upd st s 3, et_put I hs (by rw [h2]; exact et_n20) (Or.inr (Or.inl rfl)), fun an post hp => et_xhome_y hN hM hpN hs h2 hr hn ha hd hp, fun post hp => et_yhome_y hN hM hpN p0 hs h2 hr ?_ ha hd hp⟩
        exact fun j hj hjs z => hjs (I.2.2.2.1 j s hj hs z.1 h2 (z.2.trans hr.symm))
      · exact ⟨st, I, fun an post hp => et_xhome_n hN hM hpN (Or.inr (Or.inr hd)) hp, fun post hp => et_yhome_n hN hM hpN (Or.inr (Or.inr (Or.inr hd))) hp⟩
    · exact ⟨st, I, fun an post hp => et_xhome_n hN hM hpN (Or.inr (Or.inl ha)) hp, fun post hp => et_yhome_n hN hM hpN (Or.inr (Or.inr (Or.inl ha))) hp⟩
/-- the TREE RULE on both sides -/
theorem et_rule (hN : N ≤ 8) (hM : M ≤ 32) (ht : et_b t) (hr : et_b r) (I : et_Inv N M sd t ac st se re) : ∃ t' : Int32, et_b t' ∧ et_Inv N M sd t' ac st se re ∧ (∀ post : SX → Prop, post (nI N, nI M, sd, et_an t' r, nI h, tk, ac, sn, wd, nd, ns, st, se, re) → wpX_applyTreeRule post (nI N, nI M, sd, et_an t r, nI h, tk, ac, sn, wd, nd, ns, st, se, re)) ∧ (∀ post : SY → Prop, post (nI N, nI M, sd, t', r, nI h, tk, st, se, re, ac, sn, T) → wpY_treeRule post (nI N, nI M, sd, t, r, nI h, tk, st, se, re, ac, sn, T)) := by
  by_cases h0 : sd = 0
  · exact ⟨t, ht, I, fun post hp => et_xtree_n hN hM (Or.inl h0) hp, fun post hp => et_ytree_n hN hM (Or.inl h0) hp⟩
  · rcases et_first (fun j => ac j ≠ 0) N with hA | ⟨p, hpN, hA, -⟩
    · rcases et_first (fun j => st j ≠ 0) M with hF | ⟨s, hs, hF, -⟩
      · have hA' : ∀ j, j < N → ac j = 0 := fun j hj => Decidable.not_not.mp (hA j hj)
        have hF' : ∀ j, j < M → st j = 0 := fun j hj => Decidable.not_not.mp (hF j hj)
        refine ⟨1, et_b1, et_tree I hF' hA' 1, fun post hp => et_xtree_y hN hM h0 hA' hF' ?_, fun post hp => et_ytree_y hN hM h0 hA' hF' hp⟩
        rw [et_or1 ht hr]; exact hp
      · exact ⟨t, ht, I, fun post hp => et_xtree_n hN hM (Or.inr (Or.inr ⟨s, hs, hF⟩)) hp, fun post hp => et_ytree_n hN hM (Or.inr (Or.inr ⟨s, hs, hF⟩)) hp⟩
    · exact ⟨t, ht, I, fun post hp => et_xtree_n hN hM (Or.inr (Or.inl ⟨p, hpN, hA⟩)) hp, fun post hp => et_ytree_n hN hM (Or.inr (Or.inl ⟨p, hpN, hA⟩)) hp⟩
/-- an acknowledgement delivered, on both sides -/
theorem et_ack (hN : N ≤ 8) (hM : M ≤ 32) (ht : et_b t) (hr : et_b r) {s : Nat} (hs : s < M) (h3 : st s = 3) (I : et_Inv N M sd t ac st se re) : ∃ (st' : Nat → Int32) (t' : Int32), et_b t' ∧ et_Inv N M sd t' ac st' se re ∧ (∀ post : Int32 → SX → Prop, post 0 (nI N, nI M, sd, et_an t' r, nI h, tk, ac, sn, wd, nd, ns, st', se, re) → wpX_deliverAcknowledgement post (nI N, nI M, sd, et_an t r, nI h, tk, ac, sn, wd, nd, ns, st, se, re) (nI s)) ∧ (∀ post : Int32 → SY → Prop, post 0 (nI N, nI M, sd, t', r, nI h, tk, st', se, re, ac, sn, T) → wpY_deliver post (nI N, nI M, sd, t, r, nI h, tk, st, se, re, ac, sn, T) (nI s)) := by
  have s0 : st s ≠ 0 := by rw [h3]; exact et_n30
  obtain ⟨⟨a, ha, ea⟩, -⟩ := I.2.1 s hs s0
  obtain ⟨st', I', hX, hY⟩ := et_home (h := h) (tk := tk) (r := r) (sn := sn) (wd := wd) (nd := nd) (ns := ns) (T := T) hN hM ha (et_put I hs s0 (Or.inl rfl))
  obtain ⟨t', ht', I'', gX, gY⟩ := et_rule (h := h) (tk := tk) (r := r) (sn := sn) (wd := wd) (nd := nd) (ns := ns) (T := T) hN hM ht hr I'
  have hc := nI_clamp (show s < 2 ^ 31 by omega)
  refine ⟨st', t', ht', I'', fun post hp => ?_, fun post hp => ?_⟩
  · unfold wpX_deliverAcknowledgement
    refine ⟨vp_in_nI (by omega) (by decide), nm_r (by rw [hc]) ⟨vp_in_nI (by omega) (by decide), ?_⟩⟩
    rw [hc, ea]
    exact hX _ _ (gX _ hp)
  · unfold wpY_deliver
    refine br_f (nI_pos (by omega)) (br_t (nI_lt hs (by omega)) ⟨vp_in_nI (by omega) (by decide), br_f (by rw [hc]; exact s0) ⟨vp_in_nI (by omega) (by decide), br_f (by rw [hc, h3]; exact et_n32) ⟨vp_in_nI (by omega) (by decide), br_f (by rw [hc, h3]; decide) ⟨vp_in_nI (by omega) (by decide), nm_r (by rw [hc]) ⟨vp_in_nI (by omega) (by decide), ?_⟩⟩⟩⟩⟩)
    rw [hc, ea]
    exact hY _ (gY _ hp)
end ETM
end
section
section ETR
/-- the bounds and the tallies -/
def et_Ok (N M h : Nat) (t r : Int32) (wd nd ns T : Nat → Int32) : Prop :=
  2 ≤ N ∧ N ≤ 8 ∧ 8 ≤ M ∧ M ≤ 32 ∧ h < N ∧ et_b t ∧ et_b r ∧ (∀ p, p < N → T p = wd p ∧ T (8 + p) = nd p ∧ T (16 + p) = ns p)
/-- the two states hold the same arrays, the same token, the same announced bits; the tallies alike -/
def i_Rel (k : Nat) (u : SX) (v : SY) : Prop :=
  ∃ (N M h : Nat) (sd t r tk : Int32) (ac sn wd nd ns st se re T : Nat → Int32),
    u = (nI N, nI M, sd, et_an t r, nI h, tk, ac, sn, wd, nd, ns, st, se, re) ∧ v = (nI N, nI M, sd, t, r, nI h, tk, st, se, re, ac, sn, T) ∧ et_Ok N M h t r wd nd ns T ∧ et_Inv N M sd t ac st se re
variable {N M h : Nat} {sd t r tk : Int32} {ac sn wd nd ns st se re T : Nat → Int32}
theorem et_R {k : Nat} (ok : et_Ok N M h t r wd nd ns T) (I : et_Inv N M sd t ac st se re) : i_Rel k (nI N, nI M, sd, et_an t r, nI h, tk, ac, sn, wd, nd, ns, st, se, re) (nI N, nI M, sd, t, r, nI h, tk, st, se, re, ac, sn, T) :=
  ⟨N, M, h, sd, t, r, tk, ac, sn, wd, nd, ns, st, se, re, T, rfl, rfl, ok, I⟩
theorem et_ix (x : Int32) {n : Nat} (hn : n < 2 ^ 31) : (x < 0 ∨ nI n ≤ x) ∨ ∃ j : Nat, j < n ∧ x = nI j := by
  rcases pk_ix x hn with a | a | a
  · exact Or.inl (Or.inl a)
  · exact Or.inl (Or.inr a)
  · exact Or.inr a
theorem et_o1 {x : Int32} {n : Nat} {A B : Prop} (hx : x < 0 ∨ nI n ≤ x) (a : A) : (x < 0 → A) ∧ (¬ x < 0 → ((x < nI n → B) ∧ (¬ x < nI n → A))) :=
  br_c (fun _ => a) (fun z => br_f (Int32.not_lt.mpr (hx.resolve_left z)) a)
theorem et_o2 {x : Int32} {n : Nat} {A B : Prop} (hx : x < 0 ∨ nI n ≤ x) (a : A) : (x < 0 → A) ∧ (¬ x < 0 → ((nI n ≤ x → A) ∧ (¬ nI n ≤ x → B))) :=
  br_c (fun _ => a) (fun z => br_t (hx.resolve_left z) a)
theorem et_i1 {j n : Nat} {A B : Prop} (hn : n < 2 ^ 31) (hj : j < n) (b : B) : (nI j < 0 → A) ∧ (¬ nI j < 0 → ((nI j < nI n → B) ∧ (¬ nI j < nI n → A))) :=
  br_f (nI_pos (by omega)) (br_t (nI_lt hj hn) b)
theorem et_i2 {j n : Nat} {A B : Prop} (hn : n < 2 ^ 31) (hj : j < n) (b : B) : (nI j < 0 → A) ∧ (¬ nI j < 0 → ((nI n ≤ nI j → A) ∧ (¬ nI n ≤ nI j → B))) :=
  br_f (nI_pos (by omega)) (br_f (nI_ge hj hn) b)
end ETR
section ETRR
variable {N M h : Nat} {sd t r tk : Int32} {ac sn st se re T : Nat → Int32} {post : Int32 → Prop}
-- the reference's result, a mode each
theorem et_yrA (hN : N ≤ 8) (ht : t ≠ 0) (hp : post (et_sm T N)) : ∀ d i, i + d = N → wY_result_4 post 0 (nI N) (nI M) sd t r (nI h) tk st se re ac sn T (d + 1) (et_sm T i) (nI i) := by
  intro d
  induction d with
  | zero =>
    intro i hi
    have e : i = N := by omega
    subst e
    exact br_t (nI_le (by omega) (by omega)) hp
  | succ d ih =>
    intro i hi
    exact br_f (nI_ge (by omega) (by omega)) (br_t rfl (br_f ht ⟨vp_in_nI (by omega) (by decide), nm_r (by rw [nI_clamp (by omega)]; rfl) (br_f (by decide) (br_f (by decide) (nm_r (nI_1 i) (ih (i + 1) (by omega)))))⟩))
theorem et_8n (p : Nat) : (8 : Int32) + nI p = nI (8 + p) := nI_add 8 p
theorem et_16n (p : Nat) : (16 : Int32) + nI p = nI (16 + p) := nI_add 16 p
theorem et_yrC (hN : N ≤ 8) (hr : r ≠ 0) (hp : post (et_sm (fun p => T (8 + p)) N)) : ∀ d i, i + d = N → wY_result_4 post 2 (nI N) (nI M) sd t r (nI h) tk st se re ac sn T (d + 1) (et_sm (fun p => T (8 + p)) i) (nI i) := by
  intro d
  induction d with
  | zero =>
    intro i hi
    have e : i = N := by omega
    subst e
    exact br_t (nI_le (by omega) (by omega)) hp
  | succ d ih =>
    intro i hi
    exact br_f (nI_ge (by omega) (by omega)) (br_f (by decide) (br_f (by decide) (br_t rfl (br_f hr ⟨by rw [et_8n]; exact vp_in_nI (by omega) (by decide), nm_r (by rw [et_8n, nI_clamp (by omega)]; rfl) (nm_r (nI_1 i) (ih (i + 1) (by omega)))⟩))))
theorem et_yrB (hN : N ≤ 8) (ht : t ≠ 0) (hp : post (nI (et_mk (fun p => T (8 + p)) N))) : ∀ d i, i + d = N → wY_result_4 post 1 (nI N) (nI M) sd t r (nI h) tk st se re ac sn T (d + 1) (nI (et_mk (fun p => T (8 + p)) i)) (nI i) := by
  intro d
  induction d with
  | zero =>
    intro i hi
    have e : i = N := by omega
    subst e
    exact br_t (nI_le (by omega) (by omega)) hp
  | succ d ih =>
    intro i hi
    have hr := ih (i + 1) (by omega)
    have hc : ((8 : Int32) + nI i).toNatClampNeg = 8 + i := by rw [et_8n]; exact nI_clamp (by omega)
    have hsum : (i = 0 ∨ 0 < T (8 + i)) → wY_result_60 post (wY_result_4 post 1 (nI N) (nI M) sd t r (nI h) tk st se re ac sn T (d + 1)) 1 (nI (et_mk (fun p => T (8 + p)) i)) (nI i) (nI N) (nI M) sd t r (nI h) tk st se re ac sn T := by
      intro w
      rw [et_mk_t (d := fun p => T (8 + p)) w] at hr
      exact nm_r (by rw [et_sh i (by omega), nI_add]) (br_f (by decide) (nm_r (nI_1 i) hr))
    have hno : ¬ (i = 0 ∨ 0 < T (8 + i)) → wY_result_66 post (wY_result_4 post 1 (nI N) (nI M) sd t r (nI h) tk st se re ac sn T (d + 1)) 1 (nI (et_mk (fun p => T (8 + p)) i)) (nI i) (nI N) (nI M) sd t r (nI h) tk st se re ac sn T := by
      intro w
      rw [et_mk_f (d := fun p => T (8 + p)) w] at hr
      exact br_f (by decide) (nm_r (nI_1 i) hr)
    refine br_f (nI_ge (by omega) (by omega)) (br_f (by decide) (br_t rfl (br_f ht (br_c (fun z => hsum (Or.inl ?_)) (fun z => ⟨by rw [et_8n]; exact vp_in_nI (by omega) (by decide), br_c (fun y => hno ?_) (fun y => hsum (Or.inr ?_))⟩)))))
    · exact (nI_eq (by omega) (by decide)).mp z
    · rw [hc] at y
      rintro (w | w)
      · exact z (by rw [w]; exact nI_0)
      · exact absurd y (Int32.not_le.mpr w)
    · rw [hc] at y; exact Int32.not_le.mp y
theorem et_yrD {x : Int32} (hN : N ≤ 8) (h0 : x = 0 → t = 0) (h1 : x = 1 → t = 0) (h2 : x = 2 → r = 0) (hp : post 0) : ∀ d i, i + d = N → wY_result_4 post x (nI N) (nI M) sd t r (nI h) tk st se re ac sn T (d + 1) 0 (nI i) := by
  intro d
  induction d with
  | zero => exact fun i hi => br_t (nI_le (by omega) (by omega)) hp
  | succ d ih =>
    intro i hi
    have h66 : wY_result_66 post (wY_result_4 post x (nI N) (nI M) sd t r (nI h) tk st se re ac sn T (d + 1)) x 0 (nI i) (nI N) (nI M) sd t r (nI h) tk st se re ac sn T :=
      br_c (fun z => br_t (h2 z) (nm_r (nI_1 i) (ih (i + 1) (by omega)))) (fun _ => nm_r (nI_1 i) (ih (i + 1) (by omega)))
    have h32 : wY_result_32 post (wY_result_4 post x (nI N) (nI M) sd t r (nI h) tk st se re ac sn T (d + 1)) x 0 (nI i) (nI N) (nI M) sd t r (nI h) tk st se re ac sn T :=
      br_c (fun z => br_t (h1 z) h66) (fun _ => h66)
    exact br_f (nI_ge (by omega) (by omega)) (br_c (fun z => br_t (h0 z) h32) (fun _ => h32))
end ETRR
section ETRX
variable {N M h : Nat} {sd t r tk : Int32} {ac sn wd nd ns st se re : Nat → Int32} {post : Int32 → Prop}
theorem et_xrA (hN : N ≤ 8) (ht : et_b t) (hr : et_b r) (h0 : t ≠ 0) (hp : post (et_sm wd N)) : wpX_result post (nI N, nI M, sd, et_an t r, nI h, tk, ac, sn, wd, nd, ns, st, se, re) 0 := by
  unfold wpX_result
  exact br_t rfl (et_xA_t (fun z => h0 ((et_an1 ht hr).mp z)) (br_f et_n10 (et_xsmW hN hp)))
theorem et_xrB (hN1 : 1 ≤ N) (hN : N ≤ 8) (ht : et_b t) (hr : et_b r) (h0 : t ≠ 0) (hp : post (nI (et_mk nd N))) : wpX_result post (nI N, nI M, sd, et_an t r, nI h, tk, ac, sn, wd, nd, ns, st, se, re) 1 := by
  unfold wpX_result
  refine br_f (by decide) ?_
  unfold wX_result_21
  exact br_t rfl (et_xA_t (fun z => h0 ((et_an1 ht hr).mp z)) (br_f et_n10 (et_xmk hN1 hN hp)))
theorem et_xrC (hN : N ≤ 8) (ht : et_b t) (hr : et_b r) (h0 : r ≠ 0) (hp : post (et_sm nd N)) : wpX_result post (nI N, nI M, sd, et_an t r, nI h, tk, ac, sn, wd, nd, ns, st, se, re) 2 := by
  unfold wpX_result
  refine br_f (by decide) ?_
  unfold wX_result_21
  refine br_f (by decide) ?_
  unfold wX_result_39
  exact br_t rfl (et_xA_t (fun z => h0 ((et_an2 ht hr).mp z)) (br_f et_n10 (et_xsmD hN hp)))
theorem et_xrD {x : Int32} (ht : et_b t) (hr : et_b r) (h0 : x = 0 → t = 0) (h1 : x = 1 → t = 0) (h2 : x = 2 → r = 0) (hp : post 0) : wpX_result post (nI N, nI M, sd, et_an t r, nI h, tk, ac, sn, wd, nd, ns, st, se, re) x := by
  have h39 : wX_result_39 post x (nI N) (nI M) sd (et_an t r) (nI h) tk ac sn wd nd ns st se re := by
    unfold wX_result_39
    exact br_c (fun z => et_xA_f ((et_an2 ht hr).mpr (h2 z)) (br_t rfl hp)) (fun _ => hp)
  have h21 : wX_result_21 post x (nI N) (nI M) sd (et_an t r) (nI h) tk ac sn wd nd ns st se re := by
    unfold wX_result_21
    exact br_c (fun z => et_xA_f ((et_an1 ht hr).mpr (h1 z)) (br_t rfl h39)) (fun _ => h39)
  unfold wpX_result
  exact br_c (fun z => et_xA_f ((et_an1 ht hr).mpr (h0 z)) (br_t rfl h21)) (fun _ => h21)
end ETRX
end
section
theorem i_up {k : Nat} {u : SX} {v : SY} (h : i_Rel k u v) : i_Rel (k + 3) u v := h
/-- clamping on both sides: one natural -/
theorem et_clamp (x : Int32) {lo hi : Nat} (hl : lo ≤ hi) (hh : hi < 2 ^ 31) : ∃ n : Nat, lo ≤ n ∧ n ≤ hi ∧ (∀ post : Int32 → Prop, post (nI n) → wpX_clamp post x (nI lo) (nI hi)) ∧ (∀ A : Int32 → Prop, A (nI n) → (nI lo ≤ x → ((x ≤ nI hi → A x) ∧ (¬ x ≤ nI hi → A (nI hi)))) ∧ (¬ nI lo ≤ x → A (nI lo))) := by
  by_cases h1 : nI lo ≤ x
  · have h0 : ¬ x < 0 := Int32.not_lt.mpr (Int32.le_trans (nI_pos' (by omega)) h1)
    obtain ⟨j, hj, rfl⟩ := nI_of h0
    have h1' := (nI_leI (by omega) hj).mp h1
    by_cases h2 : nI j ≤ nI hi
    · exact ⟨j, h1', (nI_leI hj hh).mp h2, fun post hp => br_t h1 (br_t h2 hp), fun A hp => br_t h1 (br_t h2 hp)⟩
    · exact ⟨hi, hl, Nat.le_refl _, fun post hp => br_t h1 (br_f h2 hp), fun A hp => br_t h1 (br_f h2 hp)⟩
  · exact ⟨lo, Nat.le_refl _, hl, fun post hp => br_f h1 hp, fun A hp => br_f h1 hp⟩
theorem i_vc0 (k0 : Int32) (k1 : Int32) : wpX_init (fun u => wpY_init (fun v => i_Rel 2 u v) k0 k1) k0 k1 := by
  obtain ⟨N, n1, n2, nX, nY⟩ := et_clamp k0 (lo := 2) (hi := 8) (by decide) (by decide)
  obtain ⟨M, m1, m2, mX, mY⟩ := et_clamp k1 (lo := 8) (hi := 32) (by decide) (by decide)
  unfold wpX_init
  refine nX _ (mX _ ?_)
  unfold wpY_init
  refine nY (fun z => wY_init_74 _ k1 z 0 0 0 0 0 0 0 (fun _ => 0) (fun _ => 0) (fun _ => 0) (fun _ => 0) (fun _ => 0) (fun _ => 0)) ?_
  refine mY (fun z => i_Rel 2 _ (nI N, z, 0, 0, 0, 0, 0, (fun _ => 0), (fun _ => 0), (fun _ => 0), (fun _ => 0), (fun _ => 0), (fun _ => 0))) ?_
  exact ⟨N, M, 0, 0, 0, 0, 0, (fun _ => 0), (fun _ => 0), (fun _ => 0), (fun _ => 0), (fun _ => 0), (fun _ => 0), (fun _ => 0), (fun _ => 0), (fun _ => 0), rfl, rfl, ⟨n1, n2, m1, m2, by omega, et_b0, et_b0, fun _ _ => ⟨rfl, rfl, rfl⟩⟩, et_inv0 _ _⟩
theorem i_vc_note {k : Nat} {u : SX} {v : SY} (I : i_Rel k u v) (hk : k + 3 ≤ 1538) (v1 : Int32) : wpX_note (fun r => wpY_note (fun r' => r' = r ∧ i_Rel (k + 3) u v) v v1) u v1 := by
  obtain ⟨N, M, h, sd, t, r, tk, ac, sn, wd, nd, ns, st, se, re, T, rfl, rfl, ok, inv⟩ := I
  have J : i_Rel (k + 3) (nI N, nI M, sd, et_an t r, nI h, tk, ac, sn, wd, nd, ns, st, se, re) (nI N, nI M, sd, t, r, nI h, tk, st, se, re, ac, sn, T) := et_R ok inv
  obtain ⟨n1, n2, m1, m2, hh, ht, hr, hT⟩ := ok
  unfold wpX_note wpY_note
  rcases et_ix v1 (n := M) (by omega) with hx | ⟨j, hj, rfl⟩
  · exact et_xS_f hx (br_t rfl (et_o1 hx ⟨rfl, J⟩))
  · have hv : vp_in (nI j) 32 := vp_in_nI (by omega) (by decide)
    exact et_xS_t m2 hj (br_f et_n10 ⟨hv, br_c (fun z => et_i1 (by omega) hj ⟨hv, br_t z ⟨rfl, J⟩⟩) (fun z => ⟨hv, hv, hv, et_i1 (by omega) hj ⟨hv, br_f z ⟨hv, hv, hv, rfl, J⟩⟩⟩)⟩)
theorem i_vc_state {k : Nat} {u : SX} {v : SY} (I : i_Rel k u v) (hk : k + 3 ≤ 1538) (v1 : Int32) : wpX_state (fun r => wpY_state (fun r' => r' = r ∧ i_Rel (k + 3) u v) v v1) u v1 := by
  obtain ⟨N, M, h, sd, t, r, tk, ac, sn, wd, nd, ns, st, se, re, T, rfl, rfl, ok, inv⟩ := I
  have J : i_Rel (k + 3) (nI N, nI M, sd, et_an t r, nI h, tk, ac, sn, wd, nd, ns, st, se, re) (nI N, nI M, sd, t, r, nI h, tk, st, se, re, ac, sn, T) := et_R ok inv
  obtain ⟨n1, n2, m1, m2, hh, ht, hr, hT⟩ := ok
  unfold wpX_state wpY_state
  rcases et_ix v1 (n := N) (by omega) with hx | ⟨j, hj, rfl⟩
  · exact et_xP_f hx (br_t rfl (et_o1 hx ⟨rfl, J⟩))
  · have hv : vp_in (nI j) 8 := vp_in_nI (by omega) (by decide)
    refine et_xP_t n2 hj (br_f et_n10 ⟨hv, br_c (fun z => ?_) (fun z => et_i1 (by omega) hj ⟨hv, br_f z ⟨rfl, J⟩⟩)⟩)
    by_cases he : et_eng M sd t st re j
    · exact et_xeng_t n2 m2 hj ht hr he (br_f et_n10 (et_i1 (by omega) hj ⟨hv, br_t z (et_yeng_t n2 m2 hj inv he (br_f et_n10 ⟨rfl, J⟩))⟩))
    · exact et_xeng_f n2 m2 hj ht hr he (br_t rfl (et_i1 (by omega) hj ⟨hv, br_t z (et_yeng_f n2 m2 hj he (br_t rfl ⟨rfl, J⟩))⟩))
theorem i_vc_parent {k : Nat} {u : SX} {v : SY} (I : i_Rel k u v) (hk : k + 3 ≤ 1538) (v1 : Int32) : wpX_parent (fun r => wpY_parent (fun r' => r' = r ∧ i_Rel (k + 3) u v) v v1) u v1 := by
  obtain ⟨N, M, h, sd, t, r, tk, ac, sn, wd, nd, ns, st, se, re, T, rfl, rfl, ok, inv⟩ := I
  have J : i_Rel (k + 3) (nI N, nI M, sd, et_an t r, nI h, tk, ac, sn, wd, nd, ns, st, se, re) (nI N, nI M, sd, t, r, nI h, tk, st, se, re, ac, sn, T) := et_R ok inv
  obtain ⟨n1, n2, m1, m2, hh, ht, hr, hT⟩ := ok
  unfold wpX_parent
  rcases et_first (fun j => st j = 2 ∧ re j = v1) M with h0 | ⟨s, hs, ⟨h2, hx⟩, hn⟩
  · exact et_xheld_n m2 h0 (br_t rfl (et_ypar_n m2 h0 ⟨rfl, J⟩))
  · exact et_xheld_s m2 hs h2 hx hn (br_f (et_m1 (by omega)) ⟨vp_in_nI (by omega) (by decide), et_ypar_s m2 hs h2 hx hn ⟨by rw [nI_clamp (by omega)], J⟩⟩)
theorem i_vc_deficit {k : Nat} {u : SX} {v : SY} (I : i_Rel k u v) (hk : k + 3 ≤ 1538) (v1 : Int32) : wpX_deficit (fun r => wpY_deficit (fun r' => r' = r ∧ i_Rel (k + 3) u v) v v1) u v1 := by
  obtain ⟨N, M, h, sd, t, r, tk, ac, sn, wd, nd, ns, st, se, re, T, rfl, rfl, ok, inv⟩ := I
  have J : i_Rel (k + 3) (nI N, nI M, sd, et_an t r, nI h, tk, ac, sn, wd, nd, ns, st, se, re) (nI N, nI M, sd, t, r, nI h, tk, st, se, re, ac, sn, T) := et_R ok inv
  obtain ⟨n1, n2, m1, m2, hh, ht, hr, hT⟩ := ok
  unfold wpX_deficit
  rcases et_ix v1 (n := N) (by omega) with hx | ⟨j, hj, rfl⟩
  · exact et_xP_f hx (br_t rfl (et_yun_f hx ⟨rfl, J⟩))
  · exact et_xP_t n2 hj (br_f et_n10 (et_xun m2 (et_yun n2 m2 hj ⟨rfl, J⟩)))
theorem i_vc_stained {k : Nat} {u : SX} {v : SY} (I : i_Rel k u v) (hk : k + 3 ≤ 1538) (v1 : Int32) : wpX_stained (fun r => wpY_stained (fun r' => r' = r ∧ i_Rel (k + 3) u v) v v1) u v1 := by
  obtain ⟨N, M, h, sd, t, r, tk, ac, sn, wd, nd, ns, st, se, re, T, rfl, rfl, ok, inv⟩ := I
  have J : i_Rel (k + 3) (nI N, nI M, sd, et_an t r, nI h, tk, ac, sn, wd, nd, ns, st, se, re) (nI N, nI M, sd, t, r, nI h, tk, st, se, re, ac, sn, T) := et_R ok inv
  obtain ⟨n1, n2, m1, m2, hh, ht, hr, hT⟩ := ok
  unfold wpX_stained wpY_stained
  rcases et_ix v1 (n := N) (by omega) with hx | ⟨j, hj, rfl⟩
  · exact et_xP_f hx (br_t rfl (et_o2 hx ⟨rfl, J⟩))
  · have hv : vp_in (nI j) 8 := vp_in_nI (by omega) (by decide)
    exact et_xP_t n2 hj (br_f et_n10 ⟨hv, br_c (fun z => et_i2 (by omega) hj ⟨hv, br_t z ⟨rfl, J⟩⟩) (fun z => et_i2 (by omega) hj ⟨hv, br_f z ⟨rfl, J⟩⟩)⟩)
theorem i_vc_token {k : Nat} {u : SX} {v : SY} (I : i_Rel k u v) (hk : k + 3 ≤ 1538) : wpX_token (fun r => wpY_token (fun r' => r' = r ∧ i_Rel (k + 3) u v) v) u := by
  obtain ⟨N, M, h, sd, t, r, tk, ac, sn, wd, nd, ns, st, se, re, T, rfl, rfl, ok, inv⟩ := I
  have J : i_Rel (k + 3) (nI N, nI M, sd, et_an t r, nI h, tk, ac, sn, wd, nd, ns, st, se, re) (nI N, nI M, sd, t, r, nI h, tk, st, se, re, ac, sn, T) := et_R ok inv
  unfold wpX_token wpY_token
  exact br_c (fun z => br_t z ⟨rfl, J⟩) (fun z => br_c (fun y => br_f z (br_t y ⟨rfl, J⟩)) (fun y => br_f z (br_f y ⟨rfl, J⟩)))
theorem i_vc_verdict {k : Nat} {u : SX} {v : SY} (I : i_Rel k u v) (hk : k + 3 ≤ 1538) : wpX_verdict (fun r => wpY_verdict (fun r' => r' = r ∧ i_Rel (k + 3) u v) v) u := by
  obtain ⟨N, M, h, sd, t, r, tk, ac, sn, wd, nd, ns, st, se, re, T, rfl, rfl, ok, inv⟩ := I
  have J : i_Rel (k + 3) (nI N, nI M, sd, et_an t r, nI h, tk, ac, sn, wd, nd, ns, st, se, re) (nI N, nI M, sd, t, r, nI h, tk, st, se, re, ac, sn, T) := et_R ok inv
  obtain ⟨n1, n2, m1, m2, hh, ht, hr, hT⟩ := ok
  unfold wpX_verdict wpY_verdict
  rcases ht with rfl | rfl
  · rcases hr with rfl | rfl
    · exact br_t rfl (br_t rfl ⟨by decide, J⟩)
    · exact br_t rfl (br_f et_n10 ⟨by decide, J⟩)
  · rcases hr with rfl | rfl
    · exact br_f et_n10 (br_t rfl ⟨by decide, J⟩)
    · exact br_f et_n10 (br_f et_n10 ⟨by decide, J⟩)
theorem i_vc_tally {k : Nat} {u : SX} {v : SY} (I : i_Rel k u v) (hk : k + 3 ≤ 1538) (v1 : Int32) (v2 : Int32) : wpX_tally (fun r => wpY_tally (fun r' => r' = r ∧ i_Rel (k + 3) u v) v v1 v2) u v1 v2 := by
  obtain ⟨N, M, h, sd, t, r, tk, ac, sn, wd, nd, ns, st, se, re, T, rfl, rfl, ok, inv⟩ := I
  have J : i_Rel (k + 3) (nI N, nI M, sd, et_an t r, nI h, tk, ac, sn, wd, nd, ns, st, se, re) (nI N, nI M, sd, t, r, nI h, tk, st, se, re, ac, sn, T) := et_R ok inv
  obtain ⟨n1, n2, m1, m2, hh, ht, hr, hT⟩ := ok
  unfold wpX_tally wpY_tally
  rcases et_ix v1 (n := N) (by omega) with hx | ⟨j, hj, rfl⟩
  · exact et_xP_f hx (br_t rfl (et_o2 hx ⟨rfl, J⟩))
  · have hv : vp_in (nI j) 8 := vp_in_nI (by omega) (by decide)
    have hc := nI_clamp (show j < 2 ^ 31 by omega)
    refine et_xP_t n2 hj (br_f et_n10 (br_c (fun z => et_i2 (by omega) hj (br_t z ⟨rfl, J⟩)) (fun z => br_c (fun y => et_i2 (by omega) hj (br_f z (br_f (Int32.not_le.mpr y) ⟨rfl, J⟩))) (fun y => ?_))))
    obtain ⟨w, hw, rfl⟩ := nI_of z
    have hw2 : w ≤ 2 := (nI_leI hw (by decide)).mp (Int32.not_lt.mp y)
    have y' : nI w ≤ 2 := Int32.not_lt.mp y
    have ei : nI w * 8 + nI j = nI (w * 8 + j) := by
      show nI w * nI 8 + nI j = _
      rw [pk_mul, nI_add]
    have hi : vp_in (nI w * 8 + nI j) 24 := by rw [ei]; exact vp_in_nI (by omega) (by decide)
    have hci : (nI w * 8 + nI j).toNatClampNeg = w * 8 + j := by rw [ei]; exact nI_clamp (by omega)
    have ww : w = 0 ∨ w = 1 ∨ w = 2 := by omega
    rcases ww with rfl | rfl | rfl
    · refine br_t nI_0 ⟨hv, et_i2 (by omega) hj (br_f z (br_t y' ⟨hi, ?_, J⟩))⟩
      rw [hci, hc, Nat.zero_mul, Nat.zero_add]; exact (hT j hj).1
    · refine br_f (by decide) (br_t et_1n ⟨hv, et_i2 (by omega) hj (br_f z (br_t y' ⟨hi, ?_, J⟩))⟩)
      rw [hci, hc]; exact (hT j hj).2.1
    · refine br_f (by decide) (br_f (by decide) (br_t (by decide) ⟨hv, et_i2 (by omega) hj (br_f z (br_t y' ⟨hi, ?_, J⟩))⟩))
      rw [hci, hc]; exact (hT j hj).2.2
theorem i_vc_result {k : Nat} {u : SX} {v : SY} (I : i_Rel k u v) (hk : k + 3 ≤ 1538) (v1 : Int32) : wpX_result (fun r => wpY_result (fun r' => r' = r ∧ i_Rel (k + 3) u v) v v1) u v1 := by
  obtain ⟨N, M, h, sd, t, r, tk, ac, sn, wd, nd, ns, st, se, re, T, rfl, rfl, ok, inv⟩ := I
  have J : i_Rel (k + 3) (nI N, nI M, sd, et_an t r, nI h, tk, ac, sn, wd, nd, ns, st, se, re) (nI N, nI M, sd, t, r, nI h, tk, st, se, re, ac, sn, T) := et_R ok inv
  obtain ⟨n1, n2, m1, m2, hh, ht, hr, hT⟩ := ok
  have eW : et_sm T N = et_sm wd N := et_sm_c N (fun p hp => (hT p hp).1)
  have eD : et_sm (fun p => T (8 + p)) N = et_sm nd N := et_sm_c N (fun p hp => (hT p hp).2.1)
  have eM : et_mk (fun p => T (8 + p)) N = et_mk nd N := et_mk_c N (fun p hp => (hT p hp).2.1)
  by_cases hA : v1 = 0 ∧ t ≠ 0
  · obtain ⟨rfl, h0⟩ := hA
    exact et_xrA n2 ht hr h0 ⟨N + 1, et_yrA n2 h0 ⟨eW, J⟩ N 0 (by omega)⟩
  · by_cases hB : v1 = 1 ∧ t ≠ 0
    · obtain ⟨rfl, h0⟩ := hB
      exact et_xrB (by omega) n2 ht hr h0 ⟨N + 1, et_yrB n2 h0 ⟨by rw [eM], J⟩ N 0 (by omega)⟩
    · by_cases hC : v1 = 2 ∧ r ≠ 0
      · obtain ⟨rfl, h0⟩ := hC
        exact et_xrC n2 ht hr h0 ⟨N + 1, et_yrC n2 h0 ⟨eD, J⟩ N 0 (by omega)⟩
      · have g0 : v1 = 0 → t = 0 := fun z => Decidable.not_not.mp (fun y => hA ⟨z, y⟩)
        have g1 : v1 = 1 → t = 0 := fun z => Decidable.not_not.mp (fun y => hB ⟨z, y⟩)
        have g2 : v1 = 2 → r = 0 := fun z => Decidable.not_not.mp (fun y => hC ⟨z, y⟩)
        exact et_xrD ht hr g0 g1 g2 ⟨N + 1, et_yrD n2 g0 g1 g2 ⟨rfl, J⟩ N 0 (by omega)⟩
end
section
section ETS
variable {N M h : Nat} {sd an t r tk : Int32} {ac sn wd nd ns st se re T : Nat → Int32}
-- start, the class's loop
theorem et_xst_l {post : Int32 → SX → Prop} (hN : N ≤ 8) (hp : post 0 (nI N, nI M, 1, 0, 0, 1, et_ca ac N, et_cl sn N, et_cl wd N, et_cl nd N, et_cl ns N, st, se, re)) : ∀ d i, i + d = N → wX_start_20 post (nI N) (nI M) sd an (nI h) tk (d + 1) (nI i) (et_ca ac i) (et_cl sn i) (et_cl wd i) (et_cl nd i) (et_cl ns i) st se re := by
  intro d
  induction d with
  | zero =>
    intro i hi
    have e : i = N := by omega
    subst e
    exact br_t (nI_le (by omega) (by omega)) hp
  | succ d ih =>
    intro i hi
    have hv : vp_in (nI i) 8 := vp_in_nI (by omega) (by decide)
    have hc := nI_clamp (show i < 2 ^ 31 by omega)
    have key : ∀ z0 : Int32, vp_nar .boolean z0 = (if i = 0 then 1 else 0) → wX_start_42 post (wX_start_20 post (nI N) (nI M) sd an (nI h) tk (d + 1)) (nI i) z0 (nI i) (nI N) (nI M) sd an (nI h) tk (et_ca ac i) (et_cl sn i) (et_cl wd i) (et_cl nd i) (et_cl ns i) st se re := by
      intro z0 hz
      refine ⟨hv, nm_r (e' := et_ca ac (i + 1)) (by rw [hc, hz]; rfl) ⟨hv, nm_r (e' := et_cl sn (i + 1)) (by rw [hc, et_vb0]; rfl) ⟨hv, nm_r (e' := et_cl wd (i + 1)) (by rw [hc]; rfl) ⟨hv, nm_r (e' := et_cl nd (i + 1)) (by rw [hc]; rfl) ⟨hv, nm_r (e' := et_cl ns (i + 1)) (by rw [hc]; rfl) (nm_r (nI_1 i) (ih (i + 1) (by omega)))⟩⟩⟩⟩⟩
    refine br_f (nI_ge (by omega) (by omega)) (br_c (fun z => key 1 ?_) (fun z => key 0 ?_))
    · rw [if_pos ((nI_eq (by omega) (by decide)).mp z)]; exact et_vb1
    · rw [if_neg (fun y => z (by rw [y]; exact nI_0))]; exact et_vb0
-- start, the reference's loops
theorem et_yst2_l {post : Int32 → SY → Prop} (hp : post 0 (nI N, nI M, 1, 0, 0, 0, 1, st, se, re, ac, sn, et_cl T 24)) : ∀ d i, i + d = 24 → wY_start_64 post (nI N) (nI M) sd t r (nI h) tk (d + 1) (nI i) st se re ac sn (et_cl T i) := by
  intro d
  induction d with
  | zero =>
    intro i hi
    have e : i = 24 := by omega
    subst e
    exact br_t (by decide) hp
  | succ d ih =>
    intro i hi
    have hv : vp_in (nI i) 24 := vp_in_nI (by omega) (by decide)
    have hc := nI_clamp (show i < 2 ^ 31 by omega)
    exact br_f (nI_ge (b := 24) (by omega) (by decide)) ⟨hv, nm_r (e' := et_cl T (i + 1)) (by rw [hc]; rfl) (nm_r (nI_1 i) (ih (i + 1) (by omega)))⟩
theorem et_yst1_l {post : Int32 → SY → Prop} (hN : N ≤ 8) (hp : post 0 (nI N, nI M, 1, 0, 0, 0, 1, st, se, re, et_ca ac N, et_cl sn N, et_cl T 24)) : ∀ d i, i + d = N → wY_start_26 post (nI N) (nI M) sd t r (nI h) tk (d + 1) (nI i) st se re (et_ca ac i) (et_cl sn i) T := by
  intro d
  induction d with
  | zero =>
    intro i hi
    have e : i = N := by omega
    subst e
    exact br_t (nI_le (by omega) (by omega)) ⟨25, et_yst2_l hp 24 0 (by omega)⟩
  | succ d ih =>
    intro i hi
    have hv : vp_in (nI i) 8 := vp_in_nI (by omega) (by decide)
    have hc := nI_clamp (show i < 2 ^ 31 by omega)
    have key : ∀ z0 : Int32, vp_nar .boolean z0 = (if i = 0 then 1 else 0) → wY_start_48 post (wY_start_26 post (nI N) (nI M) sd t r (nI h) tk (d + 1)) (nI i) z0 (nI i) (nI N) (nI M) sd t r (nI h) tk st se re (et_ca ac i) (et_cl sn i) T := by
      intro z0 hz
      refine ⟨hv, nm_r (e' := et_ca ac (i + 1)) (by rw [hc, hz]; rfl) ⟨hv, nm_r (e' := et_cl sn (i + 1)) (by rw [hc, et_vb0]; rfl) (nm_r (nI_1 i) (ih (i + 1) (by omega)))⟩⟩
    refine br_f (nI_ge (by omega) (by omega)) (br_c (fun z => key 1 ?_) (fun z => key 0 ?_))
    · rw [if_pos ((nI_eq (by omega) (by decide)).mp z)]; exact et_vb1
    · rw [if_neg (fun y => z (by rw [y]; exact nI_0))]; exact et_vb0
end ETS
theorem i_vc_start {k : Nat} {u : SX} {v : SY} (I : i_Rel k u v) (hk : k + 3 ≤ 1538) : wpX_start (fun r u' => wpY_start (fun r' v' => r' = r ∧ i_Rel (k + 3) u' v') v) u := by
  obtain ⟨N, M, h, sd, t, r, tk, ac, sn, wd, nd, ns, st, se, re, T, rfl, rfl, ok, inv⟩ := I
  have J : i_Rel (k + 3) (nI N, nI M, sd, et_an t r, nI h, tk, ac, sn, wd, nd, ns, st, se, re) (nI N, nI M, sd, t, r, nI h, tk, st, se, re, ac, sn, T) := et_R ok inv
  obtain ⟨n1, n2, m1, m2, hh, ht, hr, hT⟩ := ok
  have J1 : i_Rel (k + 3) (nI N, nI M, 1, 0, 0, 1, et_ca ac N, et_cl sn N, et_cl wd N, et_cl nd N, et_cl ns N, st, se, re) (nI N, nI M, 1, 0, 0, 0, 1, st, se, re, et_ca ac N, et_cl sn N, et_cl T 24) :=
    et_R (h := 0) (t := 0) (r := 0) ⟨n1, n2, m1, m2, by omega, et_b0, et_b0, fun p hp => ⟨by rw [et_cl_at T 24 (by omega), et_cl_at wd N hp], by rw [et_cl_at T 24 (by omega), et_cl_at nd N hp], by rw [et_cl_at T 24 (by omega), et_cl_at ns N hp]⟩⟩ (et_start inv _)
  unfold wpX_start wpY_start
  by_cases h0 : sd = 0
  · exact br_t h0 ⟨N + 1, et_xst_l n2 (br_t h0 ⟨N + 1, et_yst1_l n2 ⟨rfl, J1⟩ N 0 (by omega)⟩) N 0 (by omega)⟩
  · refine br_f h0 (br_c (fun z => ?_) (fun z => br_f h0 (br_c (fun _ => ⟨rfl, J⟩) (fun y => br_c (fun _ => ⟨rfl, J⟩) (fun w => absurd ((et_an3 ht hr).mpr ⟨y, w⟩) z)))))
    have g := (et_an3 ht hr).mp z
    exact ⟨N + 1, et_xst_l n2 (br_f h0 (br_f g.1 (br_f g.2 ⟨N + 1, et_yst1_l n2 ⟨rfl, J1⟩ N 0 (by omega)⟩))) N 0 (by omega)⟩
theorem i_vc_work {k : Nat} {u : SX} {v : SY} (I : i_Rel k u v) (hk : k + 3 ≤ 1538) (v1 : Int32) (v2 : Int32) : wpX_work (fun r u' => wpY_work (fun r' v' => r' = r ∧ i_Rel (k + 3) u' v') v v1 v2) u v1 v2 := by
  obtain ⟨N, M, h, sd, t, r, tk, ac, sn, wd, nd, ns, st, se, re, T, rfl, rfl, ok, inv⟩ := I
  have J : i_Rel (k + 3) (nI N, nI M, sd, et_an t r, nI h, tk, ac, sn, wd, nd, ns, st, se, re) (nI N, nI M, sd, t, r, nI h, tk, st, se, re, ac, sn, T) := et_R ok inv
  obtain ⟨n1, n2, m1, m2, hh, ht, hr, hT⟩ := ok
  unfold wpX_work wpY_work
  rcases et_ix v1 (n := N) (by omega) with hx | ⟨j, hj, rfl⟩
  · exact et_xP_f hx (br_t rfl (et_o1 hx ⟨rfl, J⟩))
  · have hv : vp_in (nI j) 8 := vp_in_nI (by omega) (by decide)
    have hv2 : vp_in (nI j) 24 := vp_in_nI (by omega) (by decide)
    have hc := nI_clamp (show j < 2 ^ 31 by omega)
    refine et_xP_t n2 hj (br_f et_n10 ⟨hv, br_c (fun z => et_i1 (by omega) hj ⟨hv, br_t z ⟨rfl, J⟩⟩) (fun z => ⟨hv, hv, nm_e (et_i1 (by omega) hj ⟨hv, br_f z ⟨hv2, hv2, nm_e ⟨rfl, ?_⟩⟩⟩)⟩)⟩)
    rw [hc, (hT j hj).1]
    refine et_R ⟨n1, n2, m1, m2, hh, ht, hr, fun p hp => ?_⟩ inv
    obtain ⟨e1, e2, e3⟩ := hT p hp
    refine ⟨?_, by rw [pk_un (by omega)]; exact e2, by rw [pk_un (by omega)]; exact e3⟩
    by_cases e : p = j
    · subst e; rw [pk_us, pk_us]
    · rw [pk_un e, pk_un e]; exact e1
section ETS2
variable {N M h : Nat} {sd t r tk : Int32} {ac sn st se re T : Nat → Int32}
theorem et_ysd_n {post : Int32 → SY → Prop} {x y : Int32} (hM : M ≤ 32) (hp : post (-3) (nI N, nI M, sd, t, r, nI h, tk, st, se, re, ac, sn, T)) : ∀ d i, i + d = M → (∀ j, i ≤ j → j < M → st j ≠ 0) → wY_send_40 post x y (nI N) (nI M) sd t r (nI h) tk st se re ac sn T (d + 1) (nI i) := by
  intro d
  induction d with
  | zero => exact fun i hi _ => br_t (nI_le (by omega) (by omega)) hp
  | succ d ih =>
    intro i hi hn
    refine br_f (nI_ge (by omega) (by omega)) ⟨vp_in_nI (by omega) (by decide), br_f ?_ (nm_r (nI_1 i) (ih (i + 1) (by omega) (fun j hj => hn j (by omega))))⟩
    rw [nI_clamp (by omega)]; exact hn i (Nat.le_refl i) (by omega)
theorem et_ysd_s {post : Int32 → SY → Prop} {a s : Nat} {y : Int32} (hM : M ≤ 32) (ha : a < 8) (hs : s < M) (h0 : st s = 0) (hp : post (nI s) (nI N, nI M, sd, t, r, nI h, tk, upd st s 1, upd se s (nI a), upd re s y, ac, sn, upd T (16 + a) (T (16 + a) + 1))) : ∀ d i, i + d = s → (∀ j, i ≤ j → j < s → st j ≠ 0) → wY_send_40 post (nI a) y (nI N) (nI M) sd t r (nI h) tk st se re ac sn T (d + 1) (nI i) := by
  intro d
  induction d with
  | zero =>
    intro i hi _
    have e : i = s := by omega
    subst e
    have hv : vp_in (nI i) 32 := vp_in_nI (by omega) (by decide)
    have hc := nI_clamp (show i < 2 ^ 31 by omega)
    have hv2 : vp_in (16 + nI a) 24 := by rw [et_16n]; exact vp_in_nI (by omega) (by decide)
    have hc2 : ((16 : Int32) + nI a).toNatClampNeg = 16 + a := by rw [et_16n]; exact nI_clamp (by omega)
    exact br_f (nI_ge (by omega) (by omega)) ⟨hv, br_t (by rw [hc]; exact h0) ⟨hv, nm_r (by rw [hc]) ⟨hv, nm_r (by rw [hc]) ⟨hv, nm_r (by rw [hc]) ⟨hv2, hv2, nm_r (by rw [hc2]) hp⟩⟩⟩⟩⟩
  | succ d ih =>
    intro i hi hn
    refine br_f (nI_ge (by omega) (by omega)) ⟨vp_in_nI (by omega) (by decide), br_f ?_ (nm_r (nI_1 i) (ih (i + 1) (by omega) (fun j hj => hn j (by omega))))⟩
    rw [nI_clamp (by omega)]; exact hn i (Nat.le_refl i) (by omega)
end ETS2
theorem i_vc_send {k : Nat} {u : SX} {v : SY} (I : i_Rel k u v) (hk : k + 3 ≤ 1538) (v1 : Int32) (v2 : Int32) : wpX_send (fun r u' => wpY_send (fun r' v' => r' = r ∧ i_Rel (k + 3) u' v') v v1 v2) u v1 v2 := by
  obtain ⟨N, M, h, sd, t, r, tk, ac, sn, wd, nd, ns, st, se, re, T, rfl, rfl, ok, inv⟩ := I
  have J : i_Rel (k + 3) (nI N, nI M, sd, et_an t r, nI h, tk, ac, sn, wd, nd, ns, st, se, re) (nI N, nI M, sd, t, r, nI h, tk, st, se, re, ac, sn, T) := et_R ok inv
  obtain ⟨n1, n2, m1, m2, hh, ht, hr, hT⟩ := ok
  unfold wpX_send wpY_send
  rcases et_ix v1 (n := N) (by omega) with hx | ⟨a, ha, rfl⟩
  · exact et_xP_f hx (br_t rfl (et_o2 hx ⟨rfl, J⟩))
  · refine et_xP_t n2 ha (br_f et_n10 ?_)
    rcases et_ix v2 (n := N) (by omega) with hx | ⟨b, hb, rfl⟩
    · exact et_xP_f hx (br_t rfl (et_i2 (by omega) ha (et_o1 hx ⟨rfl, J⟩)))
    · have hv : vp_in (nI a) 8 := vp_in_nI (by omega) (by decide)
      have hc := nI_clamp (show a < 2 ^ 31 by omega)
      refine et_xP_t n2 hb (br_f et_n10 ⟨hv, br_c (fun z => et_i2 (by omega) ha (et_i1 (by omega) hb ⟨hv, br_t z ⟨rfl, J⟩⟩)) (fun z => ?_)⟩)
      have z' : ac a ≠ 0 := by rw [hc] at z; exact z
      rcases et_first (fun j => st j = 0) M with h0 | ⟨s, hs, h0, hn⟩
      · exact et_xlow_n m2 h0 (br_t rfl (et_i2 (by omega) ha (et_i1 (by omega) hb ⟨hv, br_f z ⟨M + 1, et_ysd_n m2 ⟨rfl, J⟩ M 0 (by omega) (fun j _ => h0 j)⟩⟩)))
      · have hvs : vp_in (nI s) 32 := vp_in_nI (by omega) (by decide)
        have hcs := nI_clamp (show s < 2 ^ 31 by omega)
        refine et_xlow_s m2 hs h0 hn (br_f (et_m1 (by omega)) ⟨hvs, nm_r (by rw [hcs]) ⟨hvs, nm_r (by rw [hcs]) ⟨hvs, nm_r (by rw [hcs]) ⟨hv, hv, nm_r (by rw [hc]) (et_i2 (by omega) ha (et_i1 (by omega) hb ⟨hv, br_f z ⟨s + 1, et_ysd_s m2 (by omega) hs h0 ⟨rfl, ?_⟩ s 0 (by omega) (fun j _ => hn j)⟩⟩))⟩⟩⟩⟩)
        refine et_R ⟨n1, n2, m1, m2, hh, ht, hr, fun p hp => ?_⟩ (et_send inv ha hb z')
        obtain ⟨e1, e2, e3⟩ := hT p hp
        refine ⟨by rw [pk_un (by omega)]; exact e1, by rw [pk_un (by omega)]; exact e2, ?_⟩
        by_cases e : p = a
        · subst e; rw [pk_us, pk_us, e3]
        · rw [pk_un (by omega), pk_un e]; exact e3
theorem i_vc_rest {k : Nat} {u : SX} {v : SY} (I : i_Rel k u v) (hk : k + 3 ≤ 1538) (v1 : Int32) : wpX_rest (fun r u' => wpY_rest (fun r' v' => r' = r ∧ i_Rel (k + 3) u' v') v v1) u v1 := by
  obtain ⟨N, M, h, sd, t, r, tk, ac, sn, wd, nd, ns, st, se, re, T, rfl, rfl, ok, inv⟩ := I
  have J : i_Rel (k + 3) (nI N, nI M, sd, et_an t r, nI h, tk, ac, sn, wd, nd, ns, st, se, re) (nI N, nI M, sd, t, r, nI h, tk, st, se, re, ac, sn, T) := et_R ok inv
  obtain ⟨n1, n2, m1, m2, hh, ht, hr, hT⟩ := ok
  unfold wpX_rest wpY_rest
  rcases et_ix v1 (n := N) (by omega) with hx | ⟨j, hj, rfl⟩
  · exact et_xP_f hx (br_t rfl (et_o1 hx ⟨rfl, J⟩))
  · have hv : vp_in (nI j) 8 := vp_in_nI (by omega) (by decide)
    have hc := nI_clamp (show j < 2 ^ 31 by omega)
    refine et_xP_t n2 hj (br_f et_n10 ⟨hv, br_c (fun z => et_i1 (by omega) hj ⟨hv, br_t z ⟨rfl, J⟩⟩) (fun z => ⟨hv, nm_r (e' := upd ac j 0) (by rw [hc, et_vb0]) ?_⟩)⟩)
    obtain ⟨st', I', hX, hY⟩ := et_home (h := h) (tk := tk) (r := r) (sn := sn) (wd := wd) (nd := nd) (ns := ns) (T := T) n2 m2 hj (et_rest inv j)
    obtain ⟨t', ht', I'', gX, gY⟩ := et_rule (h := h) (tk := tk) (r := r) (sn := sn) (wd := wd) (nd := nd) (ns := ns) (T := T) n2 m2 ht hr I'
    refine hX _ _ (gX _ (et_i1 (by omega) hj ⟨hv, br_f z ⟨hv, nm_r (e' := upd ac j 0) (by rw [hc, et_vb0]) (hY _ (gY _ ⟨rfl, ?_⟩))⟩⟩))
    exact et_R ⟨n1, n2, m1, m2, hh, ht', hr, hT⟩ I''
theorem i_vc_deliver {k : Nat} {u : SX} {v : SY} (I : i_Rel k u v) (hk : k + 3 ≤ 1538) (v1 : Int32) : wpX_deliver (fun r u' => wpY_deliver (fun r' v' => r' = r ∧ i_Rel (k + 3) u' v') v v1) u v1 := by
  obtain ⟨N, M, h, sd, t, r, tk, ac, sn, wd, nd, ns, st, se, re, T, rfl, rfl, ok, inv⟩ := I
  have J : i_Rel (k + 3) (nI N, nI M, sd, et_an t r, nI h, tk, ac, sn, wd, nd, ns, st, se, re) (nI N, nI M, sd, t, r, nI h, tk, st, se, re, ac, sn, T) := et_R ok inv
  obtain ⟨n1, n2, m1, m2, hh, ht, hr, hT⟩ := ok
  unfold wpX_deliver
  rcases et_ix v1 (n := M) (by omega) with hx | ⟨s, hs, rfl⟩
  · refine et_xS_f hx (br_t rfl ?_)
    unfold wpY_deliver
    exact et_o1 hx ⟨rfl, J⟩
  · have hv : vp_in (nI s) 32 := vp_in_nI (by omega) (by decide)
    have hc := nI_clamp (show s < 2 ^ 31 by omega)
    refine et_xS_t m2 hs (br_f et_n10 ⟨hv, ?_⟩)
    rcases inv.1 s hs with g | g | g | g
    · refine br_f (by rw [hc, g]; decide) ⟨hv, br_f (by rw [hc, g]; decide) ?_⟩
      unfold wpY_deliver
      exact et_i1 (by omega) hs ⟨hv, br_t (by rw [hc]; exact g) ⟨rfl, J⟩⟩
    · -- FLYING
      refine br_t (by rw [hc]; exact g) ?_
      have s0 : st s ≠ 0 := by rw [g]; exact et_n10
      obtain ⟨-, q, hq, eq⟩ := inv.2.1 s hs s0
      have hvq : vp_in (nI q) 8 := vp_in_nI (by omega) (by decide)
      have hcq := nI_clamp (show q < 2 ^ 31 by omega)
      have hv8 : vp_in (8 + nI q) 24 := by rw [et_8n]; exact vp_in_nI (by omega) (by decide)
      have hc8 : ((8 : Int32) + nI q).toNatClampNeg = 8 + q := by rw [et_8n]; exact nI_clamp (by omega)
      have hx : re (nI s).toNatClampNeg = nI q := by rw [hc]; exact eq
      have hTT : ∀ p, p < N → upd T (8 + q) (T (8 + q) + 1) p = wd p ∧ upd T (8 + q) (T (8 + q) + 1) (8 + p) = upd nd q (nd q + 1) p ∧ upd T (8 + q) (T (8 + q) + 1) (16 + p) = ns p := by
        intro p hp
        obtain ⟨e1, e2, e3⟩ := hT p hp
        refine ⟨by rw [pk_un (by omega)]; exact e1, ?_, by rw [pk_un (by omega)]; exact e3⟩
        by_cases e : p = q
        · subst e; rw [pk_us, pk_us, e2]
        · rw [pk_un (by omega), pk_un e]; exact e2
      have key : ∀ c : Int32, (c = 0 ∨ c = 3 ∨ (c = 2 ∧ re s ≠ 0 ∧ ∀ j, j < M → st j = 2 → re j ≠ re s)) → c ≠ 0 →
          ((∀ post : Int32 → SY → Prop, wY_deliver_71 post (nI s) (nI q) c (nI s) (nI N) (nI M) sd t r (nI h) tk st se re ac sn T → wpY_deliver post (nI N, nI M, sd, t, r, nI h, tk, st, se, re, ac, sn, T) (nI s))) →
          wX_deliverWork_25 (fun r_36 u => wpY_deliver (fun r' v' => r' = r_36 ∧ i_Rel (k + 3) u v') (nI N, nI M, sd, t, r, nI h, tk, st, se, re, ac, sn, T) (nI s)) (nI s) (nI q) c (nI s) (nI N) (nI M) sd (et_an t r) (nI h) tk ac sn wd nd ns st se re := by
        intro c hc1 hc0 hY
        refine ⟨hv, nm_r (e' := upd st s c) (by rw [hc]) ⟨hvq, nm_r (e' := upd ac q 1) (by rw [hcq, et_vb1]) ⟨hvq, nm_r (e' := upd sn q 1) (by rw [hcq, et_vb1]) ⟨hvq, hvq, nm_r (e' := upd nd q (nd q + 1)) (by rw [hcq]) ⟨hv, hY _ ?_⟩⟩⟩⟩⟩
        refine ⟨hv, nm_r (e' := upd st s c) (by rw [hc]) ⟨hvq, nm_r (e' := upd ac q 1) (by rw [hcq, et_vb1]) ⟨hvq, nm_r (e' := upd sn q 1) (by rw [hcq, et_vb1]) ⟨hv8, hv8, nm_r (e' := upd T (8 + q) (T (8 + q) + 1)) (by rw [hc8]) ⟨hv, rfl, ?_⟩⟩⟩⟩⟩
        exact et_R ⟨n1, n2, m1, m2, hh, ht, hr, hTT⟩ (et_wake (et_put inv hs s0 hc1) hs (by rw [pk_us]; exact hc0) _)
      have hY0 : ∀ (post : Int32 → SY → Prop), wpY_engaged (fun r_42 => (((r_42 = 0 → (wY_deliver_71 post (nI s) (nI q) 2 (nI s) (nI N) (nI M) sd t r (nI h) tk st se re ac sn T)) ∧ (¬ r_42 = 0 → (wY_deliver_71 post (nI s) (nI q) 3 (nI s) (nI N) (nI M) sd t r (nI h) tk st se re ac sn T))))) (nI N, nI M, sd, t, r, nI h, tk, st, se, re, ac, sn, T) (nI q) → wpY_deliver post (nI N, nI M, sd, t, r, nI h, tk, st, se, re, ac, sn, T) (nI s) := by
        intro post hp
        unfold wpY_deliver
        exact et_i1 (by omega) hs ⟨hv, br_f (by rw [hc]; exact s0) ⟨hv, br_f (by rw [hc, g]; exact et_n12) ⟨hv, br_t (by rw [hc]; exact g) ⟨hv, nm_r hx hp⟩⟩⟩⟩
      unfold wpX_deliverWork
      refine ⟨hv, nm_r hx ?_⟩
      by_cases he : et_eng M sd t st re q
      · exact et_xeng_t n2 m2 hq ht hr he (br_f et_n10 (key 3 (Or.inr (Or.inl rfl)) et_n30 (fun post hp => hY0 post (et_yeng_t n2 m2 hq inv he (br_f et_n10 hp)))))
      · refine et_xeng_f n2 m2 hq ht hr he (br_t rfl (key 2 (Or.inr (Or.inr ⟨rfl, ?_, ?_⟩)) et_n20 (fun post hp => hY0 post (et_yeng_f n2 m2 hq he (br_t rfl hp)))))
        · rw [eq]
          intro w
          have q0 : q = 0 := (nI_eq (by omega) (by decide)).mp w
          refine he (Or.inl ⟨q0, fun y => s0 ((inv.2.2.2.2 (Or.inl y)).1 s hs), ?_⟩)
          rcases ht with y | y
          · exact y
          · exact absurd ((inv.2.2.2.2 (Or.inr y)).1 s hs) s0
        · intro j hj w y
          rw [eq] at y
          refine he (Or.inr ⟨fun y0 => ?_, j, hj, w, y⟩)
          exact inv.2.2.1 j hj w (by rw [y, y0]; exact nI_0)
    · refine br_f (by rw [hc, g]; decide) ⟨hv, br_f (by rw [hc, g]; decide) ?_⟩
      unfold wpY_deliver
      exact et_i1 (by omega) hs ⟨hv, br_f (by rw [hc, g]; decide) ⟨hv, br_t (by rw [hc]; exact g) ⟨rfl, J⟩⟩⟩
    · refine br_f (by rw [hc, g]; decide) ⟨hv, br_t (by rw [hc]; exact g) ?_⟩
      obtain ⟨st', t', ht', I', hX, hY⟩ := et_ack (h := h) (tk := tk) (sn := sn) (wd := wd) (nd := nd) (ns := ns) (T := T) n2 m2 ht hr hs g inv
      exact hX _ (hY _ ⟨rfl, et_R ⟨n1, n2, m1, m2, hh, ht', hr, hT⟩ I'⟩)
end
section
section ETK
variable {N M h : Nat} {sd t r tk : Int32} {ac sn st se re T : Nat → Int32} {post : Int32 → SY → Prop}
-- the reference's loops in passToken
theorem et_fb0 : narrow .boolean (.int 0) = .int 0 ∧ fits .boolean (.int 0) = true := ⟨rfl, by decide⟩
theorem et_fb1 : narrow .boolean (.int 1) = .int 1 ∧ fits .boolean (.int 1) = true := ⟨rfl, by decide⟩
theorem et_y127_0 (hM : M ≤ 32) (hp : post 0 (nI N, nI M, sd, t, 0, nI N - 1, 0, st, se, re, ac, upd sn 0 0, T)) : ∀ d i, i + d = M → wY_passToken_127 post (nI N) (nI M) sd t r (nI h) tk st se re ac sn T (d + 1) 0 (nI i) := by
  intro d
  induction d with
  | zero => exact fun i hi => br_t (nI_le (by omega) (by omega)) ⟨et_fb0.1, et_fb0.2, br_t rfl (nm_r (by rw [et_vb0]) (nm_e hp))⟩
  | succ d ih =>
    intro i hi
    have hr := nm_r (P := fun y => wY_passToken_127 post (nI N) (nI M) sd t r (nI h) tk st se re ac sn T (d + 1) 0 y) (nI_1 i) (ih (i + 1) (by omega))
    exact br_f (nI_ge (by omega) (by omega)) ⟨vp_in_nI (by omega) (by decide), br_c (fun _ => hr) (fun _ => hr)⟩
theorem et_y127_1 (hM : M ≤ 32) (hp : post 1 (nI N, nI M, sd, t, 1, nI h, tk, st, se, re, ac, sn, T)) : ∀ d i, i + d = M → (∀ j, i ≤ j → j < M → st j ≠ 1) → wY_passToken_127 post (nI N) (nI M) sd t r (nI h) tk st se re ac sn T (d + 1) 1 (nI i) := by
  intro d
  induction d with
  | zero => exact fun i hi _ => br_t (nI_le (by omega) (by omega)) ⟨et_fb1.1, et_fb1.2, br_f et_n10 hp⟩
  | succ d ih =>
    intro i hi hn
    refine br_f (nI_ge (by omega) (by omega)) ⟨vp_in_nI (by omega) (by decide), br_f ?_ (nm_r (nI_1 i) (ih (i + 1) (by omega) (fun j hj => hn j (by omega))))⟩
    rw [nI_clamp (by omega)]; exact hn i (Nat.le_refl i) (by omega)
theorem et_y127_n {s : Nat} (hM : M ≤ 32) (hs : s < M) (h1 : st s = 1) (hp : post 0 (nI N, nI M, sd, t, 0, nI N - 1, 0, st, se, re, ac, upd sn 0 0, T)) : ∀ d i, i + d = M → i ≤ s → wY_passToken_127 post (nI N) (nI M) sd t r (nI h) tk st se re ac sn T (d + 1) 1 (nI i) := by
  intro d
  induction d with
  | zero => exact fun i hi h1 => absurd hi (by omega)
  | succ d ih =>
    intro i hi his
    by_cases e : i = s
    · subst e
      exact br_f (nI_ge (by omega) (by omega)) ⟨vp_in_nI (by omega) (by decide), br_t (by rw [nI_clamp (by omega)]; exact h1) (nm_r (nI_1 i) (et_y127_0 hM hp d (i + 1) (by omega)))⟩
    · exact br_f (nI_ge (by omega) (by omega)) ⟨vp_in_nI (by omega) (by decide), br_c (fun _ => nm_r (nI_1 i) (et_y127_0 hM hp d (i + 1) (by omega))) (fun _ => nm_r (nI_1 i) (ih (i + 1) (by omega) (by omega)))⟩
theorem et_y100_0 (hN : N ≤ 8) (hp : ∃ n, wY_passToken_127 post (nI N) (nI M) sd t r (nI h) tk st se re ac sn T n 0 0) : ∀ d i, i + d = N → wY_passToken_100 post (nI N) (nI M) sd t r (nI h) tk st se re ac sn T (d + 1) 0 (nI i) := by
  intro d
  induction d with
  | zero => exact fun i hi => br_t (nI_le (by omega) (by omega)) hp
  | succ d ih =>
    intro i hi
    have hr := nm_r (P := fun y => wY_passToken_100 post (nI N) (nI M) sd t r (nI h) tk st se re ac sn T (d + 1) 0 y) (nI_1 i) (ih (i + 1) (by omega))
    exact br_f (nI_ge (by omega) (by omega)) ⟨vp_in_nI (by omega) (by decide), br_c (fun _ => hr) (fun _ => hr)⟩
theorem et_y100_1 (hN : N ≤ 8) (hp : ∃ n, wY_passToken_127 post (nI N) (nI M) sd t r (nI h) tk st se re ac sn T n 1 0) : ∀ d i, i + d = N → (∀ j, i ≤ j → j < N → sn j = 0) → wY_passToken_100 post (nI N) (nI M) sd t r (nI h) tk st se re ac sn T (d + 1) 1 (nI i) := by
  intro d
  induction d with
  | zero => exact fun i hi _ => br_t (nI_le (by omega) (by omega)) hp
  | succ d ih =>
    intro i hi hn
    refine br_f (nI_ge (by omega) (by omega)) ⟨vp_in_nI (by omega) (by decide), br_t ?_ (nm_r (nI_1 i) (ih (i + 1) (by omega) (fun j hj => hn j (by omega))))⟩
    rw [nI_clamp (by omega)]; exact hn i (Nat.le_refl i) (by omega)
theorem et_y100_n {s : Nat} (hN : N ≤ 8) (hs : s < N) (h1 : sn s ≠ 0) (hp : ∃ n, wY_passToken_127 post (nI N) (nI M) sd t r (nI h) tk st se re ac sn T n 0 0) : ∀ d i, i + d = N → i ≤ s → wY_passToken_100 post (nI N) (nI M) sd t r (nI h) tk st se re ac sn T (d + 1) 1 (nI i) := by
  intro d
  induction d with
  | zero => exact fun i hi h1 => absurd hi (by omega)
  | succ d ih =>
    intro i hi his
    by_cases e : i = s
    · subst e
      exact br_f (nI_ge (by omega) (by omega)) ⟨vp_in_nI (by omega) (by decide), br_f (by rw [nI_clamp (by omega)]; exact h1) (nm_r (nI_1 i) (et_y100_0 hN hp d (i + 1) (by omega)))⟩
    · exact br_f (nI_ge (by omega) (by omega)) ⟨vp_in_nI (by omega) (by decide), br_c (fun _ => nm_r (nI_1 i) (ih (i + 1) (by omega) (by omega))) (fun _ => nm_r (nI_1 i) (et_y100_0 hN hp d (i + 1) (by omega)))⟩
/-- the reference at the token in process 0: RING -/
theorem et_yring_y (hN : N ≤ 8) (hM : M ≤ 32) (hsd : sd ≠ 0) (hr : r = 0) (h0 : h = 0) (h1 : tk = 0) (h2 : ∀ p, p < N → sn p = 0) (h3 : ∀ p, p < N → ac p = 0) (h4 : ∀ j, j < M → st j ≠ 1) (hN0 : 0 < N) (hp : post 1 (nI N, nI M, sd, t, 1, nI h, tk, st, se, re, ac, sn, T)) : wpY_passToken post (nI N, nI M, sd, t, r, nI h, tk, st, se, re, ac, sn, T) := by
  unfold wpY_passToken
  subst h0
  refine br_f hsd (br_t hr ⟨vp_in_nI (by omega) (by decide), br_t ?_ (br_t nI_0 (br_t h1 (et_yact_n hN h3 (br_f et_n10 ⟨N + 1, et_y100_1 hN ⟨M + 1, et_y127_1 hM hp M 0 (by omega) (fun j _ => h4 j)⟩ N 0 (by omega) (fun j _ => h2 j)⟩))))⟩)
  rw [nI_clamp (by omega)]; exact h3 0 hN0
theorem et_yring_n (hN : N ≤ 8) (hM : M ≤ 32) (hsd : sd ≠ 0) (hr : r = 0) (h0 : h = 0) (ha : ac 0 = 0) (hx : tk ≠ 0 ∨ (∃ p, p < N ∧ sn p ≠ 0) ∨ (∃ p, p < N ∧ ac p ≠ 0) ∨ (∃ j, j < M ∧ st j = 1)) (hp : post 0 (nI N, nI M, sd, t, 0, nI N - 1, 0, st, se, re, ac, upd sn 0 0, T)) : wpY_passToken post (nI N, nI M, sd, t, r, nI h, tk, st, se, re, ac, sn, T) := by
  unfold wpY_passToken
  subst h0
  have q0 : ∃ n, wY_passToken_127 post (nI N) (nI M) sd t r (nI 0) tk st se re ac sn T n 0 0 := ⟨M + 1, et_y127_0 (h := 0) hM hp M 0 (by omega)⟩
  have g0 : ∃ n, wY_passToken_100 post (nI N) (nI M) sd t r (nI 0) tk st se re ac sn T n 0 0 := ⟨N + 1, et_y100_0 (h := 0) hN q0 N 0 (by omega)⟩
  refine br_f hsd (br_t hr ⟨vp_in_nI (by omega) (by decide), br_t (by rw [nI_clamp (by omega)]; exact ha) (br_t nI_0 (br_c (fun z => ?_) (fun _ => g0)))⟩)
  rcases et_first (fun j => ac j ≠ 0) N with hB | ⟨p, hpN, hB, -⟩
  · refine et_yact_n hN (fun j hj => Decidable.not_not.mp (hB j hj)) (br_f et_n10 ?_)
    rcases et_first (fun j => sn j ≠ 0) N with hA | ⟨p, hpN, hA, -⟩
    · rcases hx with hx | ⟨p, hpN, hx⟩ | ⟨p, hpN, hx⟩ | ⟨j, hj, hx⟩
      · exact absurd z hx
      · exact absurd hx (hA p hpN)
      · exact absurd hx (hB p hpN)
      · exact ⟨N + 1, et_y100_1 (h := 0) hN ⟨M + 1, et_y127_n (h := 0) hM hj hx hp M 0 (by omega) (by omega)⟩ N 0 (by omega) (fun j _ hj => Decidable.not_not.mp (hA j hj))⟩
    · exact ⟨N + 1, et_y100_n (h := 0) hN hpN hA q0 N 0 (by omega) (by omega)⟩
  · exact et_yact_s hN hpN hB (br_t rfl g0)
end ETK
section ETL
variable {N M h g : Nat} {sd an t r tk : Int32} {ac sn wd nd ns st se re T : Nat → Int32}
theorem et_xdown_0 {post : SX → Prop} (hg : g + 1 < 8) (h0 : sn (g + 1) = 0) (hp : post (nI N, nI M, sd, an, nI g, tk, ac, upd sn (g + 1) 0, wd, nd, ns, st, se, re)) : wpX_passTokenDown post (nI N, nI M, sd, an, nI (g + 1), tk, ac, sn, wd, nd, ns, st, se, re) := by
  unfold wpX_passTokenDown
  refine ⟨vp_in_nI (by omega) (by decide), br_t (by rw [nI_clamp (by omega)]; exact h0) ⟨vp_in_nI (by omega) (by decide), nm_r (by rw [nI_clamp (by omega), et_vb0]) (nm_r (nI_pred g) hp)⟩⟩
theorem et_xdown_1 {post : SX → Prop} (hg : g + 1 < 8) (h0 : sn (g + 1) ≠ 0) (hp : post (nI N, nI M, sd, an, nI g, 1, ac, upd sn (g + 1) 0, wd, nd, ns, st, se, re)) : wpX_passTokenDown post (nI N, nI M, sd, an, nI (g + 1), tk, ac, sn, wd, nd, ns, st, se, re) := by
  unfold wpX_passTokenDown
  refine ⟨vp_in_nI (by omega) (by decide), br_f (by rw [nI_clamp (by omega)]; exact h0) ⟨vp_in_nI (by omega) (by decide), nm_r (by rw [nI_clamp (by omega), et_vb0]) (nm_r (nI_pred g) hp)⟩⟩
/-- passToken on the class's side, a case each -/
theorem et_xp_ref {post : Int32 → SX → Prop} (ht : et_b t) (hr : et_b r) (hx : sd = 0 ∨ r ≠ 0) (hp : post (-4) (nI N, nI M, sd, et_an t r, nI h, tk, ac, sn, wd, nd, ns, st, se, re)) : wpX_passToken post (nI N, nI M, sd, et_an t r, nI h, tk, ac, sn, wd, nd, ns, st, se, re) := by
  unfold wpX_passToken
  refine br_c (fun _ => hp) (fun z => et_xA_t (fun y => ?_) (br_f et_n10 hp))
  exact hx.resolve_left z ((et_an2 ht hr).mp y)
theorem et_xp_busy {post : Int32 → SX → Prop} (ht : et_b t) (hr : et_b r) (hh : h < 8) (hsd : sd ≠ 0) (h1 : r = 0) (ha : ac h ≠ 0) (hp : post (-5) (nI N, nI M, sd, et_an t r, nI h, tk, ac, sn, wd, nd, ns, st, se, re)) : wpX_passToken post (nI N, nI M, sd, et_an t r, nI h, tk, ac, sn, wd, nd, ns, st, se, re) := by
  unfold wpX_passToken
  exact br_f hsd (et_xA_f ((et_an2 ht hr).mpr h1) (br_t rfl ⟨vp_in_nI hh (by decide), br_f (by rw [nI_clamp (by omega)]; exact ha) hp⟩))
theorem et_xp_down {post : Int32 → SX → Prop} (ht : et_b t) (hr : et_b r) (hg : g + 1 < 8) (hsd : sd ≠ 0) (h1 : r = 0) (ha : ac (g + 1) = 0) (hp : post 0 (nI N, nI M, sd, et_an t r, nI g, (if sn (g + 1) = 0 then tk else 1), ac, upd sn (g + 1) 0, wd, nd, ns, st, se, re)) : wpX_passToken post (nI N, nI M, sd, et_an t r, nI (g + 1), tk, ac, sn, wd, nd, ns, st, se, re) := by
  unfold wpX_passToken
  refine br_f hsd (et_xA_f ((et_an2 ht hr).mpr h1) (br_t rfl ⟨vp_in_nI hg (by decide), br_t (by rw [nI_clamp (by omega)]; exact ha) (br_f (nI_ne0 (by omega) (by omega)) ?_)⟩))
  by_cases hs : sn (g + 1) = 0
  · rw [if_pos hs] at hp
    exact et_xdown_0 hg hs hp
  · rw [if_neg hs] at hp
    exact et_xdown_1 hg hs hp
theorem et_xp_ring {post : Int32 → SX → Prop} (hN : N ≤ 8) (hM : M ≤ 32) (hN0 : 0 < N) (ht : et_b t) (hr : et_b r) (hsd : sd ≠ 0) (hr0 : r = 0) (h1 : tk = 0) (h2 : ∀ p, p < N → sn p = 0) (h3 : ∀ p, p < N → ac p = 0) (h4 : ∀ j, j < M → st j ≠ 1) (hp : post 1 (nI N, nI M, sd, et_an t 1, nI 0, tk, ac, sn, wd, nd, ns, st, se, re)) : wpX_passToken post (nI N, nI M, sd, et_an t r, nI 0, tk, ac, sn, wd, nd, ns, st, se, re) := by
  unfold wpX_passToken
  refine br_f hsd (et_xA_f ((et_an2 ht hr).mpr hr0) (br_t rfl ⟨vp_in_nI (by omega) (by decide), br_t (by rw [nI_clamp (by omega)]; exact h3 0 hN0) (br_t nI_0 (et_xring_y (h := 0) hN hM h1 h2 h3 h4 (br_f et_n10 (nm_r (et_or2 ht hr) hp))))⟩))
theorem et_xp_round {post : Int32 → SX → Prop} (hN : N ≤ 8) (hM : M ≤ 32) (ht : et_b t) (hr : et_b r) (hsd : sd ≠ 0) (hr0 : r = 0) (ha : ac 0 = 0) (hx : tk ≠ 0 ∨ (∃ p, p < N ∧ sn p ≠ 0) ∨ (∃ p, p < N ∧ ac p ≠ 0) ∨ (∃ j, j < M ∧ st j = 1)) (hp : post 0 (nI N, nI M, sd, et_an t r, nI N - 1, 0, ac, upd sn 0 0, wd, nd, ns, st, se, re)) : wpX_passToken post (nI N, nI M, sd, et_an t r, nI 0, tk, ac, sn, wd, nd, ns, st, se, re) := by
  unfold wpX_passToken
  refine br_f hsd (et_xA_f ((et_an2 ht hr).mpr hr0) (br_t rfl ⟨vp_in_nI (by omega) (by decide), br_t (by rw [nI_clamp (by omega)]; exact ha) (br_t nI_0 (et_xring_n (h := 0) hN hM hx (br_t rfl ?_)))⟩))
  unfold wpX_sendTokenRound
  exact nm_r (by rw [et_vb0]) (nm_e hp)
/-- passToken on both sides -/
theorem et_pass (hN0 : 2 ≤ N) (hN : N ≤ 8) (hM : M ≤ 32) (hh : h < N) (ht : et_b t) (hr : et_b r) : ∃ (rr : Int32) (h' : Nat) (r' tk' : Int32) (sn' : Nat → Int32), h' < N ∧ et_b r' ∧ (∀ post : Int32 → SX → Prop, post rr (nI N, nI M, sd, et_an t r', nI h', tk', ac, sn', wd, nd, ns, st, se, re) → wpX_passToken post (nI N, nI M, sd, et_an t r, nI h, tk, ac, sn, wd, nd, ns, st, se, re)) ∧ (∀ post : Int32 → SY → Prop, post rr (nI N, nI M, sd, t, r', nI h', tk', st, se, re, ac, sn', T) → wpY_passToken post (nI N, nI M, sd, t, r, nI h, tk, st, se, re, ac, sn, T)) := by
  by_cases hsd : sd = 0
  · refine ⟨-4, h, r, tk, sn, hh, hr, fun post hp => et_xp_ref ht hr (Or.inl hsd) hp, fun post hp => ?_⟩
    unfold wpY_passToken
    exact br_t hsd hp
  · by_cases hr0 : r = 0
    · by_cases ha : ac h = 0
      · by_cases h0 : h = 0
        · subst h0
          have eN : nI N - 1 = nI (N - 1) := by
            obtain ⟨m, rfl⟩ : ∃ m, N = m + 1 := ⟨N - 1, by omega⟩
            exact nI_pred m
          by_cases hq : tk = 0 ∧ (∀ p, p < N → sn p = 0) ∧ (∀ p, p < N → ac p = 0) ∧ (∀ j, j < M → st j ≠ 1)
          · obtain ⟨h1, h2, h3, h4⟩ := hq
            exact ⟨1, 0, 1, tk, sn, hh, et_b1, fun post hp => et_xp_ring hN hM hh ht hr hsd hr0 h1 h2 h3 h4 hp, fun post hp => et_yring_y (h := 0) hN hM hsd hr0 rfl h1 h2 h3 h4 hh hp⟩
          · have hx : tk ≠ 0 ∨ (∃ p, p < N ∧ sn p ≠ 0) ∨ (∃ p, p < N ∧ ac p ≠ 0) ∨ (∃ j, j < M ∧ st j = 1) := by
              by_cases h1 : tk = 0
              · rcases et_first (fun j => sn j ≠ 0) N with h2 | ⟨p, hpN, hA, -⟩
                · rcases et_first (fun j => ac j ≠ 0) N with h3 | ⟨p, hpN, hA, -⟩
                  · rcases et_first (fun j => st j = 1) M with h4 | ⟨p, hpN, hA, -⟩
                    · exact absurd ⟨h1, fun j hj => Decidable.not_not.mp (h2 j hj), fun j hj => Decidable.not_not.mp (h3 j hj), h4⟩ hq
                    · exact Or.inr (Or.inr (Or.inr ⟨p, hpN, hA⟩))
                  · exact Or.inr (Or.inr (Or.inl ⟨p, hpN, hA⟩))
                · exact Or.inr (Or.inl ⟨p, hpN, hA⟩)
              · exact Or.inl h1
            refine ⟨0, N - 1, r, 0, upd sn 0 0, by omega, hr, fun post hp => ?_, fun post hp => ?_⟩
            · rw [← eN] at hp
              exact et_xp_round hN hM ht hr hsd hr0 ha hx hp
            · rw [← eN] at hp
              subst hr0
              exact et_yring_n (h := 0) hN hM hsd rfl rfl ha hx hp
        · obtain ⟨g, rfl⟩ : ∃ g, h = g + 1 := ⟨h - 1, by omega⟩
          refine ⟨0, g, r, (if sn (g + 1) = 0 then tk else 1), upd sn (g + 1) 0, by omega, hr, fun post hp => et_xp_down ht hr (by omega) hsd hr0 ha hp, fun post hp => ?_⟩
          unfold wpY_passToken
          have hv : vp_in (nI (g + 1)) 8 := vp_in_nI (by omega) (by decide)
          have hc := nI_clamp (show g + 1 < 2 ^ 31 by omega)
          refine br_f hsd (br_t hr0 ⟨hv, br_t (by rw [hc]; exact ha) (br_f (nI_ne0 (by omega) (by omega)) ⟨hv, ?_⟩)⟩)
          by_cases hs : sn (g + 1) = 0
          · rw [if_pos hs] at hp
            exact br_t (by rw [hc]; exact hs) ⟨hv, nm_r (by rw [hc, et_vb0]) (nm_r (nI_pred g) hp)⟩
          · rw [if_neg hs] at hp
            exact br_f (by rw [hc]; exact hs) ⟨hv, nm_r (by rw [hc, et_vb0]) (nm_r (nI_pred g) hp)⟩
      · refine ⟨-5, h, r, tk, sn, hh, hr, fun post hp => et_xp_busy ht hr (by omega) hsd hr0 ha hp, fun post hp => ?_⟩
        unfold wpY_passToken
        exact br_f hsd (br_t hr0 ⟨vp_in_nI (by omega) (by decide), br_f (by rw [nI_clamp (by omega)]; exact ha) hp⟩)
    · refine ⟨-4, h, r, tk, sn, hh, hr, fun post hp => et_xp_ref ht hr (Or.inr hr0) hp, fun post hp => ?_⟩
      unfold wpY_passToken
      exact br_f hsd (br_f hr0 hp)
end ETL
theorem i_vc_passToken {k : Nat} {u : SX} {v : SY} (I : i_Rel k u v) (hk : k + 3 ≤ 1538) : wpX_passToken (fun r u' => wpY_passToken (fun r' v' => r' = r ∧ i_Rel (k + 3) u' v') v) u := by
  obtain ⟨N, M, h, sd, t, r, tk, ac, sn, wd, nd, ns, st, se, re, T, rfl, rfl, ok, inv⟩ := I
  obtain ⟨n1, n2, m1, m2, hh, ht, hr, hT⟩ := ok
  obtain ⟨rr, h', r', tk', sn', hh', hr', hX, hY⟩ := et_pass (sd := sd) (tk := tk) (ac := ac) (sn := sn) (wd := wd) (nd := nd) (ns := ns) (st := st) (se := se) (re := re) (T := T) n1 n2 m2 hh ht hr
  exact hX _ (hY _ ⟨rfl, et_R ⟨n1, n2, m1, m2, hh', ht, hr', hT⟩ inv⟩)
end
section
section ETT
variable {N M h : Nat} {sd t r tk : Int32} {ac sn wd nd ns st se re T : Nat → Int32}
theorem et_yver {post : Int32 → Prop} (ht : et_b t) (hr : et_b r) (hp : post (et_an t r)) : wpY_verdict post (nI N, nI M, sd, t, r, nI h, tk, st, se, re, ac, sn, T) := by
  unfold wpY_verdict
  rcases ht with rfl | rfl
  · rcases hr with rfl | rfl
    · exact br_t rfl (br_t rfl hp)
    · exact br_t rfl (br_f et_n10 hp)
  · rcases hr with rfl | rfl
    · exact br_f et_n10 (br_t rfl hp)
    · exact br_f et_n10 (br_f et_n10 hp)
theorem et_3n (N : Nat) : (3 : Int32) * nI N = nI (3 * N) := pk_mul 3 N
/-- the second part of settle, on both sides -/
theorem et_set2 (hN0 : 2 ≤ N) (hN : N ≤ 8) (hM : M ≤ 32) (ht : et_b t) : ∀ (d i h : Nat) (r tk : Int32) (sn : Nat → Int32), i + d = 3 * N → h < N → et_b r → ∃ (h' : Nat) (r' tk' : Int32) (sn' : Nat → Int32), h' < N ∧ et_b r' ∧ (∀ post : Int32 → SX → Prop, post (et_an t r') (nI N, nI M, sd, et_an t r', nI h', tk', ac, sn', wd, nd, ns, st, se, re) → wX_settle_45 post (nI (3 * N)) (d + 1) (nI i) (nI N) (nI M) sd (et_an t r) (nI h) tk ac sn wd nd ns st se re) ∧ (∀ post : Int32 → SY → Prop, post (et_an t r') (nI N, nI M, sd, t, r', nI h', tk', st, se, re, ac, sn', T) → wY_settle_62 post (d + 1) 0 (nI i) (nI N) (nI M) sd t r (nI h) tk st se re ac sn T) := by
  intro d
  induction d with
  | zero =>
    intro i h r tk sn hi hh hr
    refine ⟨h, r, tk, sn, hh, hr, fun post hp => br_t (nI_le (by omega) (by omega)) hp, fun post hp => br_t ?_ (et_yver ht hr hp)⟩
    rw [et_3n]; exact nI_le (by omega) (by omega)
  | succ d ih =>
    intro i h r tk sn hi hh hr
    have hle : ¬ (3 : Int32) * nI N ≤ nI i := by rw [et_3n]; exact nI_ge (by omega) (by omega)
    obtain ⟨rr, h1, r1, tk1, sn1, hh1, hr1, hX, hY⟩ := et_pass (sd := sd) (tk := tk) (ac := ac) (sn := sn) (wd := wd) (nd := nd) (ns := ns) (st := st) (se := se) (re := re) (T := T) hN0 hN hM hh ht hr
    by_cases h0 : rr = 0
    · subst h0
      obtain ⟨h', r', tk', sn', hh', hr', gX, gY⟩ := ih (i + 1) h1 r1 tk1 sn1 (by omega) hh1 hr1
      exact ⟨h', r', tk', sn', hh', hr', fun post hp => br_f (nI_ge (by omega) (by omega)) (hX _ (br_t rfl (nm_r (nI_1 i) (gX post hp)))), fun post hp => br_f hle (br_t rfl (hY _ (nm_r (nI_1 i) (gY post hp))))⟩
    · refine ⟨h1, r1, tk1, sn1, hh1, hr1, fun post hp => br_f (nI_ge (by omega) (by omega)) (hX _ (br_f h0 hp)), fun post hp => br_f hle (br_t rfl (hY _ (nm_r (nI_1 i) ?_)))⟩
      exact br_c (fun _ => et_yver ht hr1 hp) (fun _ => br_f h0 (et_yver ht hr1 hp))
-- the reference's search for the lowest REPLYING slot
theorem et_pm (e : Nat) : nI e + (-1) = nI e - 1 := (Int32.sub_eq_add_neg (nI e) 1).symm
theorem et_y19_n {post : Int32 → SY → Prop} {J2 : Int32 → Int32 → Int32 → Int32 → Int32 → Int32 → Int32 → Int32 → (Nat → Int32) → (Nat → Int32) → (Nat → Int32) → (Nat → Int32) → (Nat → Int32) → (Nat → Int32) → Prop} {x1 x2 : Int32} (hx : wY_settle_19 post J2 x1 (nI N) (nI M) sd t r (nI h) tk st se re ac sn T 1 x2 (-1)) : ∀ e, e ≤ 32 → (∀ j, j < e → st j ≠ 3) → wY_settle_19 post J2 x1 (nI N) (nI M) sd t r (nI h) tk st se re ac sn T (e + 1) x2 (nI e - 1) := by
  intro e
  induction e with
  | zero => exact fun _ _ => hx
  | succ e ih =>
    intro he hn
    rw [nI_pred]
    refine br_f (nI_pos (by omega)) ⟨vp_in_nI (by omega) (by decide), br_f ?_ (nm_r (et_pm e) (ih (by omega) (fun j hj => hn j (by omega))))⟩
    rw [nI_clamp (by omega)]; exact hn e (by omega)
theorem et_y19_s {post : Int32 → SY → Prop} {J2 : Int32 → Int32 → Int32 → Int32 → Int32 → Int32 → Int32 → Int32 → (Nat → Int32) → (Nat → Int32) → (Nat → Int32) → (Nat → Int32) → (Nat → Int32) → (Nat → Int32) → Prop} {x1 : Int32} {s : Nat} (h3 : st s = 3) (hn : ∀ j, j < s → st j ≠ 3) (hx : wY_settle_19 post J2 x1 (nI N) (nI M) sd t r (nI h) tk st se re ac sn T 1 (nI s) (-1)) : ∀ e, e ≤ 32 → s < e → ∀ x2 : Int32, wY_settle_19 post J2 x1 (nI N) (nI M) sd t r (nI h) tk st se re ac sn T (e + 1) x2 (nI e - 1) := by
  intro e
  induction e with
  | zero => exact fun _ h => absurd h (Nat.not_lt_zero s)
  | succ e ih =>
    intro he hs x2
    rw [nI_pred]
    by_cases es : e = s
    · subst es
      exact br_f (nI_pos (by omega)) ⟨vp_in_nI (by omega) (by decide), br_t (by rw [nI_clamp (by omega)]; exact h3) (nm_r (et_pm e) (et_y19_n hx e (by omega) hn))⟩
    · exact br_f (nI_pos (by omega)) ⟨vp_in_nI (by omega) (by decide), br_c (fun _ => nm_r (et_pm e) (ih (by omega) (by omega) _)) (fun _ => nm_r (et_pm e) (ih (by omega) (by omega) _))⟩
theorem et_yidle {post : Int32 → SY → Prop} (hM : M ≤ 32) (hn : ∀ j, j < M → st j ≠ 3) (hp : ∃ n, wY_settle_62 post n 0 0 (nI N) (nI M) sd t r (nI h) tk st se re ac sn T) : ∀ d i, i + d = M → wY_settle_2 post (d + 1) (nI i) (nI N) (nI M) sd t r (nI h) tk st se re ac sn T := by
  intro d
  induction d with
  | zero => exact fun i hi => br_t (nI_le (by omega) (by omega)) hp
  | succ d ih =>
    intro i hi
    refine br_f (nI_ge (by omega) (by omega)) (nm_e ⟨M + 1, et_y19_n ?_ M hM hn⟩)
    exact br_t (by decide) (br_t rfl (nm_r (nI_1 i) (ih (i + 1) (by omega))))
/-- the first part of settle, on both sides -/
theorem et_set1 (hN : N ≤ 8) (hM : M ≤ 32) (hr : et_b r) : ∀ (d i : Nat) (t : Int32) (st : Nat → Int32), i + d = M → et_b t → et_Inv N M sd t ac st se re → ∃ (t' : Int32) (st' : Nat → Int32), et_b t' ∧ et_Inv N M sd t' ac st' se re ∧ (∀ post : Int32 → SX → Prop, (∃ n, wX_settle_45 post (nI (3 * N)) n 0 (nI N) (nI M) sd (et_an t' r) (nI h) tk ac sn wd nd ns st' se re) → wX_settle_2 post (d + 1) (nI i) (nI N) (nI M) sd (et_an t r) (nI h) tk ac sn wd nd ns st se re) ∧ (∀ post : Int32 → SY → Prop, (∃ n, wY_settle_62 post n 0 0 (nI N) (nI M) sd t' r (nI h) tk st' se re ac sn T) → wY_settle_2 post (d + 1) (nI i) (nI N) (nI M) sd t r (nI h) tk st se re ac sn T) := by
  intro d
  induction d with
  | zero =>
    intro i t st hi ht I
    exact ⟨t, st, ht, I, fun post hp => br_t (nI_le (by omega) (by omega)) (nm_r (et_3n N) hp), fun post hp => br_t (nI_le (by omega) (by omega)) hp⟩
  | succ d ih =>
    intro i t st hi ht I
    rcases et_first (fun j => st j = 3) M with h0 | ⟨s, hs, h3, hn⟩
    · exact ⟨t, st, ht, I, fun post hp => br_f (nI_ge (by omega) (by omega)) (et_xlow_n hM h0 (br_t rfl (nm_r (et_3n N) hp))), fun post hp => et_yidle hM h0 hp (d + 1) i hi⟩
    · obtain ⟨st1, t1, ht1, I1, hX, hY⟩ := et_ack (h := h) (tk := tk) (sn := sn) (wd := wd) (nd := nd) (ns := ns) (T := T) hN hM ht hr hs h3 I
      obtain ⟨t', st', ht', I', gX, gY⟩ := ih (i + 1) t1 st1 (by omega) ht1 I1
      refine ⟨t', st', ht', I', fun post hp => br_f (nI_ge (by omega) (by omega)) (et_xlow_s hM hs h3 hn (br_f (et_m1 (by omega)) (hX _ (nm_r (nI_1 i) (gX post hp))))), fun post hp => br_f (nI_ge (by omega) (by omega)) (nm_e ⟨M + 1, et_y19_s h3 hn ?_ M hM hs _⟩)⟩
      exact br_t (by decide) (br_f (et_m1 (by omega)) (hY _ (nm_r (nI_1 i) (gY post hp))))
end ETT
theorem i_vc_settle {k : Nat} {u : SX} {v : SY} (I : i_Rel k u v) (hk : k + 3 ≤ 1538) : wpX_settle (fun r u' => wpY_settle (fun r' v' => r' = r ∧ i_Rel (k + 3) u' v') v) u := by
  obtain ⟨N, M, h, sd, t, r, tk, ac, sn, wd, nd, ns, st, se, re, T, rfl, rfl, ok, inv⟩ := I
  obtain ⟨n1, n2, m1, m2, hh, ht, hr, hT⟩ := ok
  obtain ⟨t1, st1, ht1, I1, hX, hY⟩ := et_set1 (h := h) (tk := tk) (sn := sn) (wd := wd) (nd := nd) (ns := ns) (T := T) n2 m2 hr M 0 t st (by omega) ht inv
  obtain ⟨h', r', tk', sn', hh', hr', gX, gY⟩ := et_set2 (sd := sd) (ac := ac) (wd := wd) (nd := nd) (ns := ns) (st := st1) (se := se) (re := re) (T := T) n1 n2 m2 ht1 (3 * N) 0 h r tk sn (by omega) hh hr
  unfold wpX_settle wpY_settle
  exact ⟨M + 1, hX _ ⟨3 * N + 1, gX _ ⟨M + 1, hY _ ⟨3 * N + 1, gY _ ⟨rfl, et_R ⟨n1, n2, m1, m2, hh', ht1, hr', hT⟩ I1⟩⟩⟩⟩⟩
end
