-- own small rows
theorem et_vb0 : vp_nar .boolean 0 = 0 := by decide
theorem et_vb1 : vp_nar .boolean 1 = 1 := by decide
theorem et_nb {z : Int32} (h : z = 0 ∨ z = 1) : narrow .boolean (.int z) = .int z := by rcases h with rfl | rfl <;> rfl
theorem et_first (P : Nat → Prop) : ∀ M : Nat, (∀ j, j < M → ¬ P j) ∨ ∃ j, j < M ∧ P j ∧ ∀ i, i < j → ¬ P i := by
  intro M
  induction M with
  | zero => exact Or.inl (fun j hj => absurd hj (Nat.not_lt_zero j))
  | succ M ih =>
    rcases ih with h | ⟨j, hj, hp, hn⟩
    · by_cases hp : P M
      · exact Or.inr ⟨M, Nat.lt_succ_self M, hp, h⟩
      · refine Or.inl (fun j hj => ?_)
        by_cases e : j = M
        · rw [e]; exact hp
        · exact h j (by omega)
    · exact Or.inr ⟨j, by omega, hp, hn⟩
theorem et_0n : nI 0 = 0 := nI_0
theorem et_1n : nI 1 = 1 := by decide
theorem et_n12 : (1 : Int32) ≠ 2 := by decide
theorem et_n10 : (1 : Int32) ≠ 0 := by decide
theorem et_n20 : (2 : Int32) ≠ 0 := by decide
theorem et_n30 : (3 : Int32) ≠ 0 := by decide
theorem et_n32 : (3 : Int32) ≠ 2 := by decide
theorem et_n02 : (0 : Int32) ≠ 2 := by decide
theorem et_m1 {n : Nat} (h : n < 2 ^ 31) : nI n ≠ -1 := by
  intro e
  have := nI_pos h
  rw [e] at this
  exact this (by decide)
