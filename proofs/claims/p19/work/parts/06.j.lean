section EJA
/-- a slot that isn't FREE with sender b: the deficit of b is above 0 -/
def ej_def (M : Nat) (st se : Nat → Int32) (b : Nat) : Prop := ∃ i, i < M ∧ st i ≠ 0 ∧ se i = nI b
/-- the number of FLYING slots below k -/
def ej_fly (st : Nat → Int32) : Nat → Nat
  | 0 => 0
  | k + 1 => if st k = 1 then ej_fly st k + 1 else ej_fly st k
def ej_q (N M : Nat) (ac st : Nat → Int32) : Prop := (∀ p, p < N → ac p = 0) ∧ (∀ j, j < M → st j ≠ 1)
/-- the core of the invariant: E: the process (if any) whose homecoming is still owed -/
def ej_K (N M : Nat) (sd t r : Int32) (ac st se re nd ns : Nat → Int32) (E : Nat → Prop) : Prop :=
  et_Inv N M sd t ac st se re ∧
  (∀ j, j < M → st j ≠ 0 → ∀ a, a < N → se j = nI a → et_eng M sd t st re a) ∧
  (∀ p, p < N → ac p ≠ 0 → et_eng M sd t st re p) ∧
  (∀ j, j < M → st j = 2 → ∀ b, b < N → re j = nI b → ac b = 0 → E b ∨ ej_def M st se b) ∧
  (r ≠ 0 → ej_q N M ac st) ∧
  (∃ ts : Nat → Nat, ∀ j, j < M → st j = 2 → ∀ a b, a < N → b < N → a ≠ 0 → se j = nI a → re j = nI b → ts a < ts b) ∧
  et_sm ns N = et_sm nd N + nI (ej_fly st M)
/-- some process is active or some slot isn't FREE -/
def ej_some (N M : Nat) (ac st : Nat → Int32) : Prop := (∃ p, p < N ∧ ac p ≠ 0) ∨ (∃ j, j < M ∧ st j ≠ 0)
def ej_J (N M : Nat) (sd t r : Int32) (ac st se re nd ns : Nat → Int32) : Prop :=
  ej_K N M sd t r ac st se re nd ns (fun _ => False) ∧ (sd ≠ 0 → t = 0 → ej_some N M ac st)
end EJA
section EJB
theorem ej_nI {a b N : Nat} (hN : N ≤ 8) (ha : a < N) (hb : b < N) (h : nI a = nI b) : a = b := (nI_eq (by omega) (by omega)).mp h
theorem ej_fly_c {f g : Nat → Int32} : ∀ k, (∀ j, j < k → (f j = 1 ↔ g j = 1)) → ej_fly f k = ej_fly g k := by
  intro k
  induction k with
  | zero => exact fun _ => rfl
  | succ k ih =>
    intro h
    have e := ih (fun j hj => h j (by omega))
    have h' := h k (by omega)
    show (if f k = 1 then ej_fly f k + 1 else ej_fly f k) = (if g k = 1 then ej_fly g k + 1 else ej_fly g k)
    by_cases z : f k = 1
    · rw [if_pos z, if_pos (h'.mp z), e]
    · rw [if_neg z, if_neg (fun y => z (h'.mpr y)), e]
theorem ej_fly_up {st : Nat → Int32} {s : Nat} (h0 : st s ≠ 1) : ∀ k, s < k → ej_fly (upd st s 1) k = ej_fly st k + 1 := by
  intro k
  induction k with
  | zero => exact fun h => absurd h (Nat.not_lt_zero s)
  | succ k ih =>
    intro h
    show (if upd st s 1 k = 1 then ej_fly (upd st s 1) k + 1 else ej_fly (upd st s 1) k) = (if st k = 1 then ej_fly st k + 1 else ej_fly st k) + 1
    by_cases e : k = s
    · subst e
      rw [if_pos pk_us, if_neg h0, ej_fly_c (f := upd st k 1) (g := st) k (fun j hj => by rw [pk_un (by omega)])]
    · rw [ih (by omega), pk_un e]
      split <;> rfl
theorem ej_fly_dn {st : Nat → Int32} {s k : Nat} {c : Int32} (h1 : st s = 1) (hc : c ≠ 1) (hs : s < k) : ej_fly st k = ej_fly (upd st s c) k + 1 := by
  rw [← ej_fly_up (st := upd st s c) (s := s) (by rw [pk_us]; exact hc) k hs]
  refine ej_fly_c k (fun j _ => ?_)
  by_cases e : j = s
  · subst e; rw [pk_us, h1]
  · rw [pk_un e, pk_un e]
theorem ej_fly_k {st : Nat → Int32} {s : Nat} {c : Int32} (h1 : st s ≠ 1) (hc : c ≠ 1) (k : Nat) : ej_fly (upd st s c) k = ej_fly st k := by
  refine ej_fly_c k (fun j _ => ?_)
  by_cases e : j = s
  · subst e; rw [pk_us]; exact ⟨fun z => absurd z hc, fun z => absurd z h1⟩
  · rw [pk_un e]
theorem ej_fly_0 {st : Nat → Int32} : ∀ k, (∀ j, j < k → st j ≠ 1) → ej_fly st k = 0 := by
  intro k
  induction k with
  | zero => exact fun _ => rfl
  | succ k ih =>
    intro h
    show (if st k = 1 then ej_fly st k + 1 else ej_fly st k) = 0
    rw [if_neg (h k (by omega))]
    exact ih (fun j hj => h j (by omega))
theorem ej_sm_u (f : Nat → Int32) (p : Nat) (c : Int32) : ∀ n, (p < n → et_sm (upd f p (f p + c)) n = et_sm f n + c) ∧ (n ≤ p → et_sm (upd f p (f p + c)) n = et_sm f n) := by
  intro n
  induction n with
  | zero => exact ⟨fun h => absurd h (Nat.not_lt_zero p), fun _ => rfl⟩
  | succ n ih =>
    constructor
    · intro h
      show et_sm (upd f p (f p + c)) n + upd f p (f p + c) n = et_sm f n + f n + c
      by_cases e : n = p
      · subst e; rw [ih.2 (Nat.le_refl n), pk_us, Int32.add_assoc]
      · rw [ih.1 (by omega), pk_un e, Int32.add_assoc, Int32.add_assoc, Int32.add_comm c]
    · intro h
      show et_sm (upd f p (f p + c)) n + upd f p (f p + c) n = et_sm f n + f n
      rw [ih.2 (by omega), pk_un (by omega)]
theorem ej_eng_m {M : Nat} {sd t : Int32} {st re st' re' : Nat → Int32} {p : Nat} (h : ∀ j, j < M → st j = 2 → st' j = 2 ∧ re' j = re j) (e : et_eng M sd t st re p) : et_eng M sd t st' re' p := by
  rcases e with e | ⟨h0, j, hj, a, b⟩
  · exact Or.inl e
  · exact Or.inr ⟨h0, j, hj, (h j hj a).1, (h j hj a).2.trans b⟩
theorem ej_def_m {M : Nat} {st se st' se' : Nat → Int32} {b : Nat} (h : ∀ i, i < M → st i ≠ 0 → st' i ≠ 0 ∧ se' i = se i) (e : ej_def M st se b) : ej_def M st' se' b := by
  obtain ⟨i, hi, a, c⟩ := e
  exact ⟨i, hi, (h i hi a).1, (h i hi a).2.trans c⟩
theorem ej_cn0 {st se : Nat → Int32} {p : Int32} : ∀ k, (∀ i, i < k → st i ≠ 0 → se i ≠ p) → et_cn st se p k = 0 := by
  intro k
  induction k with
  | zero => exact fun _ => rfl
  | succ k ih =>
    intro h
    rw [et_cn_f (fun z => h k (by omega) z.1 z.2)]
    exact ih (fun i hi => h i (by omega))
theorem ej_cnp {st se : Nat → Int32} {p : Int32} {i : Nat} (h0 : st i ≠ 0) (h1 : se i = p) : ∀ k, i < k → 0 < et_cn st se p k := by
  intro k
  induction k with
  | zero => exact fun h => absurd h (Nat.not_lt_zero i)
  | succ k ih =>
    intro h
    by_cases e : i = k
    · subst e; rw [et_cn_t h0 h1]; omega
    · have := ih (by omega)
      by_cases z : st k ≠ 0 ∧ se k = p
      · rw [et_cn_t z.1 z.2]; omega
      · rw [et_cn_f z]; exact this
/-- a number above every stamp -/
def ej_big (ts : Nat → Nat) : Nat → Nat
  | 0 => 1
  | n + 1 => ej_big ts n + ts n
theorem ej_big_lt (ts : Nat → Nat) {p : Nat} : ∀ n, p < n → ts p < ej_big ts n := by
  have hp : ∀ n, 0 < ej_big ts n := by
    intro n
    induction n with
    | zero => exact Nat.one_pos
    | succ n ih => show 0 < ej_big ts n + ts n; omega
  intro n
  induction n with
  | zero => exact fun h => absurd h (Nat.not_lt_zero p)
  | succ n ih =>
    intro h
    show ts p < ej_big ts n + ts n
    have := hp n
    by_cases e : p = n
    · subst e; omega
    · have := ih (by omega); omega
end EJB
section EJC
variable {N M : Nat} {sd t r : Int32} {ac st se re nd ns : Nat → Int32}
/-- send: a note of an active process a into a FREE slot s -/
theorem ej_send (hN : N ≤ 8) (hK : ej_K N M sd t r ac st se re nd ns (fun _ => False)) {a b s : Nat} (ha : a < N) (hb : b < N) (hs : s < M) (h0 : st s = 0) (hac : ac a ≠ 0) :
    ej_J N M sd t r ac (upd st s 1) (upd se s (nI a)) (upd re s (nI b)) nd (upd ns a (ns a + 1)) := by
  obtain ⟨I, k1, k2, k3, k5, ⟨ts, k6⟩, k7⟩ := hK
  have hne : ∀ j, st j ≠ 0 → j ≠ s := fun j hj e => hj (e ▸ h0)
  have hd : ∀ j, st j = 2 → j ≠ s := fun j hj => hne j (by rw [hj]; exact et_n20)
  have hg : ∀ p, et_eng M sd t st re p → et_eng M sd t (upd st s 1) (upd re s (nI b)) p := fun p hp =>
    ej_eng_m (fun j hj e => ⟨by rw [pk_un (hd j e)]; exact e, pk_un (hd j e)⟩) hp
  have h2' : ∀ j, upd st s 1 j = 2 → j ≠ s ∧ st j = 2 := fun j e => by
    by_cases z : j = s
    · subst z; rw [pk_us] at e; exact absurd e et_n12
    · rw [pk_un z] at e; exact ⟨z, e⟩
  refine ⟨⟨et_send I ha hb hac, ?_, ?_, ?_, ?_, ⟨ts, ?_⟩, ?_⟩, fun _ _ => Or.inl ⟨a, ha, hac⟩⟩
  · intro j hj e c hc ec
    by_cases z : j = s
    · subst z; rw [pk_us] at ec
      have : a = c := ej_nI hN ha hc ec
      subst this
      exact hg a (k2 a ha hac)
    · rw [pk_un z] at e ec; exact hg c (k1 j hj e c hc ec)
  · exact fun p hp e => hg p (k2 p hp e)
  · intro j hj e c hc ec h
    obtain ⟨z, e'⟩ := h2' j e
    rw [pk_un z] at ec
    rcases k3 j hj e' c hc ec h with f | f
    · exact Or.inl f
    · exact Or.inr (ej_def_m (fun i _ hi => ⟨by rw [pk_un (hne i hi)]; exact hi, pk_un (hne i hi)⟩) f)
  · exact fun h => absurd ((k5 h).1 a ha) hac
  · intro j hj e c d hc hd' hc0 e1 e2
    obtain ⟨z, e'⟩ := h2' j e
    rw [pk_un z] at e1 e2
    exact k6 j hj e' c d hc hd' hc0 e1 e2
  · rw [(ej_sm_u ns a 1 N).1 ha, k7, ej_fly_up (by rw [h0]; decide) M hs, nI_succ, Int32.add_assoc]
/-- a FLYING note s delivered to q: REPLYING if q is engaged, else HELD -/
theorem ej_work (hN : N ≤ 8) (ht : et_b t) (hK : ej_K N M sd t r ac st se re nd ns (fun _ => False)) {q s : Nat} {c : Int32} (hq : q < N) (hs : s < M) (h1 : st s = 1) (hr : re s = nI q)
    (hc : (c = 3 ∧ et_eng M sd t st re q) ∨ (c = 2 ∧ ¬ et_eng M sd t st re q)) :
    ej_J N M sd t r (upd ac q 1) (upd st s c) se re (upd nd q (nd q + 1)) ns := by
  obtain ⟨I, k1, k2, k3, k5, ⟨ts, k6⟩, k7⟩ := hK
  have s0 : st s ≠ 0 := by rw [h1]; exact et_n10
  have c0 : c ≠ 0 := by rcases hc with ⟨h, -⟩ | ⟨h, -⟩ <;> rw [h] <;> decide
  have c1 : c ≠ 1 := by rcases hc with ⟨h, -⟩ | ⟨h, -⟩ <;> rw [h] <;> decide
  have hd : ∀ j, st j = 2 → j ≠ s := fun j hj e => by rw [e, h1] at hj; exact et_n12 hj
  have hg : ∀ p, et_eng M sd t st re p → et_eng M sd t (upd st s c) re p := fun p hp =>
    ej_eng_m (fun j hj e => ⟨by rw [pk_un (hd j e)]; exact e, rfl⟩) hp
  have h5 : sd ≠ 0 ∧ t = 0 := by
    constructor
    · intro z; exact s0 ((I.2.2.2.2 (Or.inl z)).1 s hs)
    · rcases ht with z | z
      · exact z
      · exact absurd ((I.2.2.2.2 (Or.inr z)).1 s hs) s0
  have hn : ¬ et_eng M sd t st re q → q ≠ 0 ∧ ∀ j, j < M → st j = 2 → re j ≠ nI q := by
    intro z
    have q0 : q ≠ 0 := fun e => z (Or.inl ⟨e, h5⟩)
    exact ⟨q0, fun j hj e e' => z (Or.inr ⟨q0, j, hj, e, e'⟩)⟩
  have hI : et_Inv N M sd t ac (upd st s c) se re := by
    refine et_put I hs s0 ?_
    rcases hc with ⟨h, -⟩ | ⟨h, z⟩
    · exact Or.inr (Or.inl h)
    · refine Or.inr (Or.inr ⟨h, ?_, ?_⟩)
      · rw [hr]; exact nI_ne0 (Nat.pos_of_ne_zero (hn z).1) (by omega)
      · rw [hr]; exact (hn z).2
  have hs' : upd st s c s ≠ 0 := by rw [pk_us]; exact c0
  refine ⟨⟨et_wake hI hs hs' _, ?_, ?_, ?_, ?_, ?_, ?_⟩, fun _ _ => Or.inr ⟨s, hs, hs'⟩⟩
  · intro j hj e a ha ea
    by_cases z : j = s
    · subst z; exact hg a (k1 j hj s0 a ha ea)
    · rw [pk_un z] at e; exact hg a (k1 j hj e a ha ea)
  · intro p hp e
    by_cases z : p = q
    · subst z
      rcases hc with ⟨-, h⟩ | ⟨h, y⟩
      · exact hg p h
      · exact Or.inr ⟨(hn y).1, s, hs, by rw [pk_us]; exact h, hr⟩
    · rw [pk_un z] at e; exact hg p (k2 p hp e)
  · intro j hj e b hb eb h
    by_cases zb : b = q
    · subst zb; rw [pk_us] at h; exact absurd h et_n10
    · rw [pk_un zb] at h
      by_cases z : j = s
      · subst z; exact absurd (ej_nI hN hb hq (eb.symm.trans hr)) zb
      · rw [pk_un z] at e
        rcases k3 j hj e b hb eb h with f | f
        · exact Or.inl f
        · refine Or.inr (ej_def_m (fun i _ hi => ⟨?_, rfl⟩) f)
          by_cases y : i = s
          · subst y; exact hs'
          · rw [pk_un y]; exact hi
  · exact fun h => absurd h1 ((k5 h).2 s hs)
  · rcases hc with ⟨h, -⟩ | ⟨h, y⟩
    · refine ⟨ts, fun j hj e => ?_⟩
      by_cases z : j = s
      · subst z; rw [pk_us, h] at e; exact absurd e et_n32
      · rw [pk_un z] at e; exact k6 j hj e
    · refine ⟨fun p => if p = q then ej_big ts N else ts p, fun j hj e a b ha hb ha0 ea eb => ?_⟩
      have aq : a ≠ q := by
        intro z; subst z
        refine y ?_
        by_cases z : j = s
        · subst z; exact k1 j hj s0 a ha ea
        · rw [pk_un z] at e; exact k1 j hj (by rw [e]; exact et_n20) a ha ea
      show (if a = q then ej_big ts N else ts a) < (if b = q then ej_big ts N else ts b)
      rw [if_neg aq]
      by_cases z : j = s
      · subst z
        rw [if_pos (ej_nI hN hb hq (eb.symm.trans hr))]
        exact ej_big_lt ts N ha
      · rw [pk_un z] at e
        have bq : b ≠ q := fun z => (hn y).2 j hj e (by rw [← z]; exact eb)
        rw [if_neg bq]
        exact k6 j hj e a b ha hb ha0 ea eb
  · rw [(ej_sm_u nd q 1 N).1 hq, k7, ej_fly_dn h1 c1 hs, nI_succ]
    rw [Int32.add_assoc, Int32.add_comm 1]
/-- rest: p is no longer active, its homecoming is owed -/
theorem ej_rest (hK : ej_K N M sd t r ac st se re nd ns (fun _ => False)) (p : Nat) : ej_K N M sd t r (upd ac p 0) st se re nd ns (fun b => b = p) := by
  obtain ⟨I, k1, k2, k3, k5, k6, k7⟩ := hK
  refine ⟨et_rest I p, k1, ?_, ?_, ?_, k6, k7⟩
  · intro b hb e
    by_cases z : b = p
    · subst z; rw [pk_us] at e; exact absurd rfl e
    · rw [pk_un z] at e; exact k2 b hb e
  · intro j hj e b hb eb h
    by_cases z : b = p
    · exact Or.inl z
    · rw [pk_un z] at h; exact Or.inr ((k3 j hj e b hb eb h).resolve_left id)
  · intro h
    refine ⟨fun b hb => ?_, (k5 h).2⟩
    by_cases z : b = p
    · subst z; exact pk_us
    · rw [pk_un z]; exact (k5 h).1 b hb
/-- an acknowledgement s delivered to its sender p, whose homecoming is then owed -/
theorem ej_ack (hN : N ≤ 8) (hK : ej_K N M sd t r ac st se re nd ns (fun _ => False)) {p s : Nat} (hp : p < N) (hs : s < M) (h3 : st s = 3) (hse : se s = nI p) : ej_K N M sd t r ac (upd st s 0) se re nd ns (fun b => b = p) := by
  obtain ⟨I, k1, k2, k3, k5, ⟨ts, k6⟩, k7⟩ := hK
  have s0 : st s ≠ 0 := by rw [h3]; exact et_n30
  have hd : ∀ j, st j = 2 → j ≠ s := fun j hj e => by rw [e, h3] at hj; exact et_n32 hj
  have hg : ∀ q, et_eng M sd t st re q → et_eng M sd t (upd st s 0) re q := fun q hq =>
    ej_eng_m (fun j hj e => ⟨by rw [pk_un (hd j e)]; exact e, rfl⟩) hq
  have h2' : ∀ j, upd st s 0 j ≠ 0 → j ≠ s ∧ st j ≠ 0 := fun j e => by
    by_cases z : j = s
    · subst z; rw [pk_us] at e; exact absurd rfl e
    · rw [pk_un z] at e; exact ⟨z, e⟩
  have h2 : ∀ j, upd st s 0 j = 2 → j ≠ s ∧ st j = 2 := fun j e => by
    by_cases z : j = s
    · subst z; rw [pk_us] at e; exact absurd e et_n02
    · rw [pk_un z] at e; exact ⟨z, e⟩
  refine ⟨et_put I hs s0 (Or.inl rfl), ?_, ?_, ?_, ?_, ⟨ts, ?_⟩, ?_⟩
  · exact fun j hj e a ha ea => hg a (k1 j hj (h2' j e).2 a ha ea)
  · exact fun b hb e => hg b (k2 b hb e)
  · intro j hj e b hb eb h
    by_cases z : b = p
    · exact Or.inl z
    · obtain ⟨i, hi, x, y⟩ := (k3 j hj (h2 j e).2 b hb eb h).resolve_left id
      have is : i ≠ s := fun w => z (ej_nI hN hb hp (by rw [← y, w]; exact hse))
      exact Or.inr ⟨i, hi, by rw [pk_un is]; exact x, y⟩
  · intro h
    refine ⟨(k5 h).1, fun j hj e => ?_⟩
    by_cases z : j = s
    · subst z; rw [pk_us] at e; exact absurd e (by decide)
    · rw [pk_un z] at e; exact (k5 h).2 j hj e
  · exact fun j hj e => k6 j hj (h2 j e).2
  · rw [ej_fly_k (by rw [h3]; decide) (by decide)]; exact k7
/-- homecoming of p that takes place -/
theorem ej_home (hN : N ≤ 8) {p : Nat} (hK : ej_K N M sd t r ac st se re nd ns (fun b => b = p)) {s : Nat} (hp : p < N) (hs : s < M) (h2 : st s = 2) (hr : re s = nI p) (ha : ac p = 0) (hd : ¬ ej_def M st se p) : ej_K N M sd t r ac (upd st s 3) se re nd ns (fun _ => False) := by
  obtain ⟨I, k1, k2, k3, k5, ⟨ts, k6⟩, k7⟩ := hK
  have s0 : st s ≠ 0 := by rw [h2]; exact et_n20
  have uq : ∀ j, j < M → st j = 2 → re j = nI p → j = s := fun j hj e e' => I.2.2.2.1 j s hj hs e h2 (e'.trans hr.symm)
  have hg : ∀ q, q < N → q ≠ p → et_eng M sd t st re q → et_eng M sd t (upd st s 3) re q := by
    intro q hq hqp e
    rcases e with e | ⟨q0, j, hj, e, e'⟩
    · exact Or.inl e
    · have js : j ≠ s := fun z => hqp (ej_nI hN hq hp (by rw [← e', z]; exact hr))
      exact Or.inr ⟨q0, j, hj, by rw [pk_un js]; exact e, e'⟩
  have hz : ∀ j, upd st s 3 j ≠ 0 → st j ≠ 0 := fun j e => by
    by_cases z : j = s
    · subst z; exact s0
    · rw [pk_un z] at e; exact e
  have hz' : ∀ j, st j ≠ 0 → upd st s 3 j ≠ 0 := fun j e => by
    by_cases z : j = s
    · subst z; rw [pk_us]; exact et_n30
    · rw [pk_un z]; exact e
  have h2' : ∀ j, upd st s 3 j = 2 → j ≠ s ∧ st j = 2 := fun j e => by
    by_cases z : j = s
    · subst z; rw [pk_us] at e; exact absurd e et_n32
    · rw [pk_un z] at e; exact ⟨z, e⟩
  refine ⟨et_put I hs s0 (Or.inr (Or.inl rfl)), ?_, ?_, ?_, ?_, ⟨ts, ?_⟩, ?_⟩
  · intro j hj e a ha' ea
    have ap : a ≠ p := fun z => hd ⟨j, hj, hz j e, by rw [← z]; exact ea⟩
    exact hg a ha' ap (k1 j hj (hz j e) a ha' ea)
  · intro q hq e
    have qp : q ≠ p := fun z => e (by rw [z]; exact ha)
    exact hg q hq qp (k2 q hq e)
  · intro j hj e b hb eb h
    obtain ⟨js, e'⟩ := h2' j e
    have bp : b ≠ p := fun z => js (uq j hj e' (by rw [← z]; exact eb))
    exact Or.inr (ej_def_m (fun i _ hi => ⟨hz' i hi, rfl⟩) ((k3 j hj e' b hb eb h).resolve_left bp))
  · intro h
    refine ⟨(k5 h).1, fun j hj e => ?_⟩
    by_cases z : j = s
    · subst z; rw [pk_us] at e; exact absurd e (by decide)
    · rw [pk_un z] at e; exact (k5 h).2 j hj e
  · exact fun j hj e => k6 j hj (h2' j e).2
  · rw [ej_fly_k (by rw [h2]; decide) (by decide)]; exact k7
/-- homecoming of p that changes nothing -/
theorem ej_nohome {p : Nat} (hN : N ≤ 8) (hp : p < N) (hK : ej_K N M sd t r ac st se re nd ns (fun b => b = p)) (h : (∀ j, j < M → st j = 2 → re j ≠ nI p) ∨ ac p ≠ 0 ∨ ej_def M st se p) : ej_K N M sd t r ac st se re nd ns (fun _ => False) := by
  obtain ⟨I, k1, k2, k3, k5, k6, k7⟩ := hK
  refine ⟨I, k1, k2, ?_, k5, k6, k7⟩
  intro j hj e b hb eb ha
  rcases k3 j hj e b hb eb ha with z | z
  · subst z
    rcases h with h | h | h
    · exact absurd eb (h j hj e)
    · exact absurd ha h
    · exact Or.inr h
  · exact Or.inr z
/-- the TREE RULE -/
theorem ej_tree (hK : ej_K N M sd t r ac st se re nd ns (fun _ => False)) (hF : ∀ j, j < M → st j = 0) (hA : ∀ p, p < N → ac p = 0) : ej_J N M sd 1 r ac st se re nd ns := by
  obtain ⟨I, k1, k2, k3, k5, k6, k7⟩ := hK
  exact ⟨⟨et_tree I hF hA 1, fun j hj e => absurd (hF j hj) e, fun p hp e => absurd (hA p hp) e, k3, k5, k6, k7⟩, fun _ z => absurd z et_n10⟩
theorem ej_notree (hK : ej_K N M sd t r ac st se re nd ns (fun _ => False)) (h : sd = 0 ∨ ej_some N M ac st) : ej_J N M sd t r ac st se re nd ns :=
  ⟨hK, fun z _ => h.resolve_left z⟩
/-- RING is announced in a quiet state -/
theorem ej_ring (hJ : ej_J N M sd t r ac st se re nd ns) (h : ej_q N M ac st) (r' : Int32) : ej_J N M sd t r' ac st se re nd ns :=
  ⟨⟨hJ.1.1, hJ.1.2.1, hJ.1.2.2.1, hJ.1.2.2.2.1, fun _ => h, hJ.1.2.2.2.2.2.1, hJ.1.2.2.2.2.2.2⟩, hJ.2⟩
/-- a start that isn't refused -/
theorem ej_start (I : et_Inv N M sd t ac st se re) (hN : 0 < N) (hF : ∀ j, j < M → st j = 0) {ac' nd' ns' : Nat → Int32} (hA : ac' 0 ≠ 0) (hA' : ∀ p, p < N → p ≠ 0 → ac' p = 0) (h1 : ∀ p, p < N → nd' p = 0) (h2 : ∀ p, p < N → ns' p = 0) : ej_J N M 1 0 0 ac' st se re nd' ns' := by
  have hs : ∀ (f : Nat → Int32) (n : Nat), (∀ p, p < n → f p = 0) → et_sm f n = 0 := by
    intro f n
    induction n with
    | zero => exact fun _ => rfl
    | succ n ih =>
      intro h
      show et_sm f n + f n = 0
      rw [ih (fun p hp => h p (by omega)), h n (by omega)]; rfl
  refine ⟨⟨et_start I ac', fun j hj e => absurd (hF j hj) e, ?_, ?_, fun z => absurd rfl z, ⟨fun _ => 0, ?_⟩, ?_⟩, fun _ _ => Or.inl ⟨0, hN, hA⟩⟩
  · intro p hp e
    by_cases z : p = 0
    · exact Or.inl ⟨z, et_n10, rfl⟩
    · exact absurd (hA' p hp z) e
  · exact fun j hj e => absurd ((hF j hj).symm.trans e) et_n02
  · exact fun j hj e => absurd ((hF j hj).symm.trans e) et_n02
  · rw [hs ns' N h2, hs nd' N h1, ej_fly_0 M (fun j hj => by rw [hF j hj]; decide)]; rfl
/-- a quiet state without REPLYING slots, started: TREE is announced -/
theorem ej_done (hN : N ≤ 8) (ht : et_b t) (hJ : ej_J N M sd t r ac st se re nd ns) (hq : ej_q N M ac st) (h3 : ∀ j, j < M → st j ≠ 3) (hsd : sd ≠ 0) : t = 1 := by
  obtain ⟨⟨I, k1, k2, k3, k5, ⟨ts, k6⟩, k7⟩, k4⟩ := hJ
  have h2 : ∀ j, j < M → st j ≠ 0 → st j = 2 := by
    intro j hj e
    rcases I.1 j hj with z | z | z | z
    · exact absurd z e
    · exact absurd z (hq.2 j hj)
    · exact z
    · exact absurd z (h3 j hj)
  have hno : ∀ d j b, j < M → st j = 2 → b < N → re j = nI b → ej_big ts N ≤ ts b + d → False := by
    intro d
    induction d with
    | zero => intro j b hj e hb eb h; have := ej_big_lt ts N hb; omega
    | succ d ih =>
      intro j b hj e hb eb h
      obtain ⟨i, hi, e1, e2⟩ := (k3 j hj e b hb eb (hq.1 b hb)).resolve_left id
      have i2 := h2 i hi e1
      obtain ⟨-, b', hb', eb'⟩ := I.2.1 i hi e1
      have b0 : b ≠ 0 := fun z => I.2.2.1 j hj e (by rw [eb, z]; exact nI_0)
      have := k6 i hi i2 b b' hb hb' b0 e2 eb'
      exact ih i b' hi i2 hb' eb' (by omega)
  rcases ht with z | z
  · rcases k4 hsd z with ⟨p, hp, e⟩ | ⟨j, hj, e⟩
    · exact absurd (hq.1 p hp) e
    · obtain ⟨-, b, hb, eb⟩ := I.2.1 j hj e
      exact absurd (hno (ej_big ts N) j b hj (h2 j hj e) hb eb (by omega)) id
  · exact z
end EJC
section EJD
/-- how many processes in 1 .. k-1 have a stamp below x -/
def ej_lt (ts : Nat → Nat) (x : Nat) : Nat → Nat
  | 0 => 0
  | k + 1 => if k ≠ 0 ∧ ts k < x then ej_lt ts x k + 1 else ej_lt ts x k
theorem ej_lt_mono (ts : Nat → Nat) {x y : Nat} (h : x ≤ y) : ∀ k, ej_lt ts x k ≤ ej_lt ts y k := by
  intro k
  induction k with
  | zero => exact Nat.le_refl _
  | succ k ih =>
    show (if k ≠ 0 ∧ ts k < x then ej_lt ts x k + 1 else ej_lt ts x k) ≤ (if k ≠ 0 ∧ ts k < y then ej_lt ts y k + 1 else ej_lt ts y k)
    by_cases z : k ≠ 0 ∧ ts k < x
    · rw [if_pos z, if_pos ⟨z.1, by omega⟩]; omega
    · rw [if_neg z]; split <;> omega
theorem ej_lt_strict (ts : Nat → Nat) {x y q : Nat} (hq : q ≠ 0) (h1 : x ≤ ts q) (h2 : ts q < y) : ∀ k, q < k → ej_lt ts x k < ej_lt ts y k := by
  intro k
  induction k with
  | zero => exact fun h => absurd h (Nat.not_lt_zero q)
  | succ k ih =>
    intro h
    show (if k ≠ 0 ∧ ts k < x then ej_lt ts x k + 1 else ej_lt ts x k) < (if k ≠ 0 ∧ ts k < y then ej_lt ts y k + 1 else ej_lt ts y k)
    by_cases e : q = k
    · subst e
      rw [if_neg (fun z => by have := z.2; omega), if_pos ⟨hq, h2⟩]
      have := ej_lt_mono ts (x := x) (y := y) (by omega) q
      omega
    · have := ih (by omega)
      by_cases z : k ≠ 0 ∧ ts k < x
      · rw [if_pos z, if_pos ⟨z.1, by omega⟩]; omega
      · rw [if_neg z]; split <;> omega
theorem ej_lt_le (ts : Nat → Nat) (x : Nat) : ∀ k, ej_lt ts x (k + 1) ≤ k := by
  intro k
  induction k with
  | zero => show (if (0 : Nat) ≠ 0 ∧ ts 0 < x then ej_lt ts x 0 + 1 else ej_lt ts x 0) ≤ 0; rw [if_neg (fun z => z.1 rfl)]; exact Nat.le_refl 0
  | succ k ih =>
    show (if k + 1 ≠ 0 ∧ ts (k + 1) < x then ej_lt ts x (k + 1) + 1 else ej_lt ts x (k + 1)) ≤ k + 1
    split <;> omega
theorem ej_lt_bd (ts : Nat → Nat) {x q : Nat} (hq : q ≠ 0) (h1 : x ≤ ts q) : ∀ k, q < k → ej_lt ts x k + 2 ≤ k := by
  intro k
  induction k with
  | zero => exact fun h => absurd h (Nat.not_lt_zero q)
  | succ k ih =>
    intro h
    by_cases e : q = k
    · subst e
      show (if q ≠ 0 ∧ ts q < x then ej_lt ts x q + 1 else ej_lt ts x q) + 2 ≤ q + 1
      rw [if_neg (fun z => by have := z.2; omega)]
      obtain ⟨m, rfl⟩ : ∃ m, q = m + 1 := ⟨q - 1, by omega⟩
      have := ej_lt_le ts x m
      omega
    · have := ih (by omega)
      show (if k ≠ 0 ∧ ts k < x then ej_lt ts x k + 1 else ej_lt ts x k) + 2 ≤ k + 1
      split <;> omega
/-- the number of slots below k that aren't FREE -/
def ej_nf (st : Nat → Int32) : Nat → Nat
  | 0 => 0
  | k + 1 => if st k ≠ 0 then ej_nf st k + 1 else ej_nf st k
theorem ej_nf_le (st : Nat → Int32) : ∀ k, ej_nf st k ≤ k := by
  intro k
  induction k with
  | zero => exact Nat.le_refl _
  | succ k ih =>
    show (if st k ≠ 0 then ej_nf st k + 1 else ej_nf st k) ≤ k + 1
    split <;> omega
theorem ej_nf_c {f g : Nat → Int32} : ∀ k, (∀ j, j < k → (f j ≠ 0 ↔ g j ≠ 0)) → ej_nf f k = ej_nf g k := by
  intro k
  induction k with
  | zero => exact fun _ => rfl
  | succ k ih =>
    intro h
    have e := ih (fun j hj => h j (by omega))
    have h' := h k (by omega)
    show (if f k ≠ 0 then ej_nf f k + 1 else ej_nf f k) = (if g k ≠ 0 then ej_nf g k + 1 else ej_nf g k)
    by_cases z : f k ≠ 0
    · rw [if_pos z, if_pos (h'.mp z), e]
    · rw [if_neg z, if_neg (fun y => z (h'.mpr y)), e]
theorem ej_nf_dn {st : Nat → Int32} {s : Nat} (h0 : st s ≠ 0) : ∀ k, s < k → ej_nf st k = ej_nf (upd st s 0) k + 1 := by
  intro k
  induction k with
  | zero => exact fun h => absurd h (Nat.not_lt_zero s)
  | succ k ih =>
    intro h
    show (if st k ≠ 0 then ej_nf st k + 1 else ej_nf st k) = (if upd st s 0 k ≠ 0 then ej_nf (upd st s 0) k + 1 else ej_nf (upd st s 0) k) + 1
    by_cases e : k = s
    · subst e
      rw [if_pos h0, if_neg (fun z => z pk_us), ej_nf_c (f := upd st k 0) (g := st) k (fun j hj => by rw [pk_un (by omega)])]
    · rw [ih (by omega), pk_un e]
      split <;> rfl
theorem ej_nf_0 {st : Nat → Int32} : ∀ k, ej_nf st k = 0 → ∀ j, j < k → st j = 0 := by
  intro k
  induction k with
  | zero => exact fun _ j hj => absurd hj (Nat.not_lt_zero j)
  | succ k ih =>
    intro h j hj
    have h' : (if st k ≠ 0 then ej_nf st k + 1 else ej_nf st k) = 0 := h
    by_cases z : st k ≠ 0
    · rw [if_pos z] at h'; omega
    · rw [if_neg z] at h'
      by_cases e : j = k
      · subst e; exact Decidable.not_not.mp z
      · exact ih h' j (by omega)
end EJD
