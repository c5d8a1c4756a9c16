section ETP
def et_Inv (N M : Nat) (sd t : Int32) (ac st se re : Nat → Int32) : Prop :=
  (∀ j, j < M → st j = 0 ∨ st j = 1 ∨ st j = 2 ∨ st j = 3) ∧
  (∀ j, j < M → st j ≠ 0 → (∃ a, a < N ∧ se j = nI a) ∧ (∃ b, b < N ∧ re j = nI b)) ∧
  (∀ j, j < M → st j = 2 → re j ≠ 0) ∧
  (∀ i j, i < M → j < M → st i = 2 → st j = 2 → re i = re j → i = j) ∧
  ((sd = 0 ∨ t = 1) → (∀ j, j < M → st j = 0) ∧ (∀ p, p < N → ac p = 0))
variable {N M : Nat} {sd t : Int32} {ac st se re : Nat → Int32}
theorem et_inv0 (se re : Nat → Int32) : et_Inv N M sd t (fun _ => 0) (fun _ => 0) se re :=
  ⟨fun _ _ => Or.inl rfl, fun _ _ h => absurd rfl h, fun _ _ h => absurd h et_n02, fun _ _ _ _ h => absurd h et_n02, fun _ => ⟨fun _ _ => rfl, fun _ _ => rfl⟩⟩
/-- a work note set off into slot s -/
theorem et_send (I : et_Inv N M sd t ac st se re) {a b s : Nat} (ha : a < N) (hb : b < N) (hac : ac a ≠ 0) : et_Inv N M sd t ac (upd st s 1) (upd se s (nI a)) (upd re s (nI b)) := by
  obtain ⟨h1, h2, h3, h4, h5⟩ := I
  refine ⟨?_, ?_, ?_, ?_, ?_⟩
  · intro j hj
    by_cases e : j = s
    · subst e; rw [pk_us]; exact Or.inr (Or.inl rfl)
    · rw [pk_un e]; exact h1 j hj
  · intro j hj
    by_cases e : j = s
    · subst e; rw [pk_us, pk_us, pk_us]; exact fun _ => ⟨⟨a, ha, rfl⟩, ⟨b, hb, rfl⟩⟩
    · rw [pk_un e, pk_un e, pk_un e]; exact h2 j hj
  · intro j hj
    by_cases e : j = s
    · subst e; rw [pk_us]; exact fun z => absurd z et_n12
    · rw [pk_un e, pk_un e]; exact h3 j hj
  · intro i j hi hj zi zj zr
    by_cases e : i = s
    · subst e; rw [pk_us] at zi; exact absurd zi et_n12
    · by_cases e' : j = s
      · subst e'; rw [pk_us] at zj; exact absurd zj et_n12
      · rw [pk_un e] at zi; rw [pk_un e'] at zj; rw [pk_un e, pk_un e'] at zr; exact h4 i j hi hj zi zj zr
  · intro z
    exact absurd ((h5 z).2 a ha) hac
/-- a stage c written into a slot that isn't FREE, where c isn't HELD, or no other slot is HELD for that receiver -/
theorem et_put (I : et_Inv N M sd t ac st se re) {s : Nat} {c : Int32} (hs : s < M) (e1 : st s ≠ 0) (hc : c = 0 ∨ c = 3 ∨ (c = 2 ∧ re s ≠ 0 ∧ ∀ j, j < M → st j = 2 → re j ≠ re s)) : et_Inv N M sd t ac (upd st s c) se re := by
  obtain ⟨h1, h2, h3, h4, h5⟩ := I
  have h2s := h2 s hs e1
  refine ⟨?_, ?_, ?_, ?_, ?_⟩
  · intro j hj
    by_cases e : j = s
    · subst e; rw [pk_us]
      rcases hc with h | h | h
      · exact Or.inl h
      · exact Or.inr (Or.inr (Or.inr h))
      · exact Or.inr (Or.inr (Or.inl h.1))
    · rw [pk_un e]; exact h1 j hj
  · intro j hj
    by_cases e : j = s
    · subst e; exact fun _ => h2s
    · rw [pk_un e]; exact h2 j hj
  · intro j hj
    by_cases e : j = s
    · subst e; rw [pk_us]
      rcases hc with h | h | h
      · exact fun z => absurd (h.symm.trans z) et_n02
      · exact fun z => absurd (h.symm.trans z) et_n32
      · exact fun _ => h.2.1
    · rw [pk_un e]; exact h3 j hj
  · intro i j hi hj zi zj zr
    by_cases e : i = s
    · by_cases e' : j = s
      · rw [e, e']
      · subst e; rw [pk_us] at zi; rw [pk_un e'] at zj
        rcases hc with h | h | h
        · exact absurd (h.symm.trans zi) et_n02
        · exact absurd (h.symm.trans zi) et_n32
        · exact absurd zr.symm (h.2.2 j hj zj)
    · by_cases e' : j = s
      · subst e'; rw [pk_us] at zj; rw [pk_un e] at zi
        rcases hc with h | h | h
        · exact absurd (h.symm.trans zj) et_n02
        · exact absurd (h.symm.trans zj) et_n32
        · exact absurd zr (h.2.2 i hi zi)
      · rw [pk_un e] at zi; rw [pk_un e'] at zj; exact h4 i j hi hj zi zj zr
  · intro z
    exact absurd ((h5 z).1 s hs) e1
/-- a process becomes active while some slot isn't FREE -/
theorem et_wake (I : et_Inv N M sd t ac st se re) {s : Nat} (hs : s < M) (e1 : st s ≠ 0) (ac' : Nat → Int32) : et_Inv N M sd t ac' st se re :=
  ⟨I.1, I.2.1, I.2.2.1, I.2.2.2.1, fun z => absurd ((I.2.2.2.2 z).1 s hs) e1⟩
theorem et_rest (I : et_Inv N M sd t ac st se re) (q : Nat) : et_Inv N M sd t (upd ac q 0) st se re :=
  ⟨I.1, I.2.1, I.2.2.1, I.2.2.2.1, fun z => ⟨(I.2.2.2.2 z).1, fun p hp => by
    by_cases e : p = q
    · subst e; exact pk_us
    · rw [pk_un e]; exact (I.2.2.2.2 z).2 p hp⟩⟩
theorem et_tree (I : et_Inv N M sd t ac st se re) (hF : ∀ j, j < M → st j = 0) (hA : ∀ p, p < N → ac p = 0) (t' : Int32) : et_Inv N M sd t' ac st se re :=
  ⟨I.1, I.2.1, I.2.2.1, I.2.2.2.1, fun _ => ⟨hF, hA⟩⟩
theorem et_start (I : et_Inv N M sd t ac st se re) (ac' : Nat → Int32) : et_Inv N M 1 0 ac' st se re :=
  ⟨I.1, I.2.1, I.2.2.1, I.2.2.2.1, fun y => by rcases y with y | y <;> exact absurd y (by decide)⟩
/-- the deficit: slots below k that aren't FREE and whose sender is p -/
def et_cn (st se : Nat → Int32) (p : Int32) : Nat → Nat
  | 0 => 0
  | k + 1 => if st k ≠ 0 ∧ se k = p then et_cn st se p k + 1 else et_cn st se p k
theorem et_cn_le (st se : Nat → Int32) (p : Int32) : ∀ k, et_cn st se p k ≤ k := by
  intro k
  induction k with
  | zero => exact Nat.le_refl 0
  | succ k ih =>
    show (if st k ≠ 0 ∧ se k = p then et_cn st se p k + 1 else et_cn st se p k) ≤ k + 1
    split <;> omega
theorem et_cn_t {st se : Nat → Int32} {p : Int32} {k : Nat} (h : st k ≠ 0) (h' : se k = p) : et_cn st se p (k + 1) = et_cn st se p k + 1 := if_pos ⟨h, h'⟩
theorem et_cn_f {st se : Nat → Int32} {p : Int32} {k : Nat} (h : ¬ (st k ≠ 0 ∧ se k = p)) : et_cn st se p (k + 1) = et_cn st se p k := if_neg h
end ETP
section ETQ
/-- the announced bits -/
def et_an (t r : Int32) : Int32 := t + 2 * r
def et_b (t : Int32) : Prop := t = 0 ∨ t = 1
variable {t r : Int32}
theorem et_an1 (ht : et_b t) (hr : et_b r) : (et_an t r &&& 1) = 0 ↔ t = 0 := by rcases ht with rfl | rfl <;> rcases hr with rfl | rfl <;> decide
theorem et_an2 (ht : et_b t) (hr : et_b r) : (et_an t r &&& 2) = 0 ↔ r = 0 := by rcases ht with rfl | rfl <;> rcases hr with rfl | rfl <;> decide
theorem et_or1 (ht : et_b t) (hr : et_b r) : (et_an t r ||| 1) = et_an 1 r := by rcases ht with rfl | rfl <;> rcases hr with rfl | rfl <;> decide
theorem et_or2 (ht : et_b t) (hr : et_b r) : (et_an t r ||| 2) = et_an t 1 := by rcases ht with rfl | rfl <;> rcases hr with rfl | rfl <;> decide
theorem et_an3 (ht : et_b t) (hr : et_b r) : et_an t r = 3 ↔ (t ≠ 0 ∧ r ≠ 0) := by rcases ht with rfl | rfl <;> rcases hr with rfl | rfl <;> decide
theorem et_b0 : et_b 0 := Or.inl rfl
theorem et_b1 : et_b 1 := Or.inr rfl
theorem et_bn (h : et_b t) (h0 : t ≠ 0) : t = 1 := by rcases h with h | h; exact absurd h h0; exact h
/-- sums, masks, cleared arrays -/
def et_sm (f : Nat → Int32) : Nat → Int32
  | 0 => 0
  | n + 1 => et_sm f n + f n
theorem et_sm_c {f g : Nat → Int32} : ∀ n, (∀ p, p < n → f p = g p) → et_sm f n = et_sm g n := by
  intro n
  induction n with
  | zero => exact fun _ => rfl
  | succ n ih =>
    intro h
    show et_sm f n + f n = et_sm g n + g n
    rw [ih (fun p hp => h p (by omega)), h n (by omega)]
def et_mk (d : Nat → Int32) : Nat → Nat
  | 0 => 0
  | p + 1 => if p = 0 ∨ 0 < d p then et_mk d p + 2 ^ p else et_mk d p
theorem et_mk_lt (d : Nat → Int32) : ∀ p, et_mk d p < 2 ^ p := by
  intro p
  induction p with
  | zero => show (0 : Nat) < 2 ^ 0; decide
  | succ p ih =>
    show (if p = 0 ∨ 0 < d p then et_mk d p + 2 ^ p else et_mk d p) < 2 ^ (p + 1)
    have e : 2 ^ (p + 1) = 2 ^ p + 2 ^ p := by rw [Nat.pow_succ]; omega
    rw [e]
    split <;> omega
theorem et_mk_c {f g : Nat → Int32} : ∀ n, (∀ p, p < n → f p = g p) → et_mk f n = et_mk g n := by
  intro n
  induction n with
  | zero => exact fun _ => rfl
  | succ n ih =>
    intro h
    show (if n = 0 ∨ 0 < f n then et_mk f n + 2 ^ n else et_mk f n) = (if n = 0 ∨ 0 < g n then et_mk g n + 2 ^ n else et_mk g n)
    rw [ih (fun p hp => h p (by omega)), h n (by omega)]
theorem et_mk_t {d : Nat → Int32} {p : Nat} (h : p = 0 ∨ 0 < d p) : et_mk d (p + 1) = et_mk d p + 2 ^ p := if_pos h
theorem et_mk_f {d : Nat → Int32} {p : Nat} (h : ¬ (p = 0 ∨ 0 < d p)) : et_mk d (p + 1) = et_mk d p := if_neg h
theorem et_mk_1 (d : Nat → Int32) : et_mk d 1 = 1 := et_mk_t (Or.inl rfl)
theorem et_sh : ∀ p, p < 8 → (1 : Int32) <<< (nI p &&& 31) = nI (2 ^ p) := by decide +kernel
theorem et_ior : ∀ p, p < 8 → ∀ m, m < 2 ^ p → nI m ||| nI (2 ^ p) = nI (m + 2 ^ p) := by decide +kernel
def et_cl (f : Nat → Int32) : Nat → Nat → Int32
  | 0 => f
  | i + 1 => upd (et_cl f i) i 0
def et_ca (f : Nat → Int32) : Nat → Nat → Int32
  | 0 => f
  | i + 1 => upd (et_ca f i) i (if i = 0 then 1 else 0)
theorem et_cl_at (f : Nat → Int32) {p : Nat} : ∀ i, p < i → et_cl f i p = 0 := by
  intro i
  induction i with
  | zero => exact fun h => absurd h (Nat.not_lt_zero p)
  | succ i ih =>
    intro h
    show upd (et_cl f i) i 0 p = 0
    by_cases e : p = i
    · subst e; exact pk_us
    · rw [pk_un e]; exact ih (by omega)
theorem et_ca_at (f : Nat → Int32) {p : Nat} : ∀ i, p < i → et_ca f i p = if p = 0 then 1 else 0 := by
  intro i
  induction i with
  | zero => exact fun h => absurd h (Nat.not_lt_zero p)
  | succ i ih =>
    intro h
    show upd (et_ca f i) i (if i = 0 then 1 else 0) p = _
    by_cases e : p = i
    · subst e; exact pk_us
    · rw [pk_un e]; exact ih (by omega)
end ETQ
