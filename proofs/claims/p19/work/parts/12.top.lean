section ETP2
variable {N M L : Nat} {xs : Nat → Int32} {post : Int32 → Prop} {kc ks : Nat}
theorem ej_ann {t r : Int32} (ht : et_b t) (hr : et_b r) : et_an t r = 0 ↔ (t = 0 ∧ r = 0) := by
  rcases ht with rfl | rfl <;> rcases hr with rfl | rfl <;> decide
/-- the law's loop -/
theorem ej_93 (hL : L ≤ 260) (hN0 : 2 ≤ N) (hN : N ≤ 8) (hM0 : 8 ≤ M) (hM : M ≤ 32) (hp1 : post 1) {B : Nat} (hB : B < 2 ^ 31) : ∀ d i, i + d = B → ej_HJ N M L i (wL_law_93 post L xs (nI N) (nI M) (nI B) kc ks (d + 1)) := by
  intro d
  induction d with
  | zero =>
    intro i hi sd x7 x8 x10 x11 x12 x13 kk h t r tk ac sn wd nd ns st se re hk hh ht hr hJ hq
    exact br_t (nI_le (by omega) (by omega)) hp1
  | succ d ih =>
    intro i hi sd x7 x8 x10 x11 x12 x13 kk h t r tk ac sn wd nd ns st se re hk hh ht hr hJ hq
    have HJ := ih (i + 1) (by omega)
    refine br_f (nI_ge (by omega) (by omega)) ?_
    have hI := hJ.1.1
    have qt : t ≠ 0 ∨ r ≠ 0 → ej_q N M ac st := by
      rintro (z | z)
      · have g := hI.2.2.2.2 (Or.inr (et_bn ht z))
        exact ⟨g.2, fun j hj e => by rw [g.1 j hj] at e; exact absurd e (by decide)⟩
      · exact hJ.1.2.2.2.2.1 z
    have main : ∀ (x7' x17 x18 : Int32), (x7' ≠ 0 → t ≠ 0 ∨ r ≠ 0) → (x17 = 0 ↔ ej_q N M ac st) → (t ≠ 0 → x18 ≠ 0) → wL_law_257 post L xs (wL_law_93 post L xs (nI N) (nI M) (nI B) kc ks (d + 1)) (nI N) (nI M) sd x7' x8 (nI kk) x10 x11 x12 x13 (nI B) (nI i) (et_an t r) x17 x18 (et_sm wd N) (et_sm nd N) (et_sm ns N) kc ks (nI N) (nI M) sd (et_an t r) (nI h) tk ac sn wd nd ns st se re := by
      intro x7' x17 x18 hq' h17 h18
      have H9 : wL_law_269 post L xs (wL_law_93 post L xs (nI N) (nI M) (nI B) kc ks (d + 1)) (nI N) (nI M) sd x7' x8 (nI kk) x10 x11 x12 x13 (nI B) (nI i) (et_an t r) x17 x18 (et_sm wd N) (et_sm nd N) (et_sm ns N) kc ks (nI N) (nI M) sd (et_an t r) (nI h) tk ac sn wd nd ns st se re :=
        ej_269 hN0 hN hM ht hr hJ.1 h18 rfl (ej_390 hN ht hr hJ rfl rfl (ej_421 hL hN0 hN hM0 hM ht hr hp1 (fun y8 y10 y11 y12 y13 y26 y27 y28 k2 hk2 => ej_965 hN0 hN hM HJ hk2 hh ht hr hJ hq' h17 y8 y10 y11 y12 y13 _ y26 y27 y28) hk x8 x10 x11 x12 x13))
      unfold wL_law_257
      exact br_c (fun _ => H9) (fun z => br_t (h17.mpr (qt (hq' z))) H9)
    show ∃ fu125 : Nat, _
    refine ⟨N + 1, ej_125 hN hM hI ht hr (fun x17 x18 h17 h18 => ⟨M + 1, ej_206 hN hM hI ht (fun y17 y18 g17 g18 => ?_) M 0 x17 x18 (by omega) ?_ h18⟩) N 0 0 1 (by omega) ⟨fun _ p hp => absurd hp (Nat.not_lt_zero p), fun _ => rfl⟩ (fun _ => et_n10)⟩
    · refine br_c (fun _ => main x7 y17 y18 hq g17 g18) (fun z => main 1 y17 y18 (fun _ => ?_) g17 g18)
      by_cases t0 : t = 0
      · exact Or.inr (fun r0 => z ((ej_ann ht hr).mpr ⟨t0, r0⟩))
      · exact Or.inl t0
    · exact ⟨fun y => ⟨h17.mp y, fun j hj => absurd hj (Nat.not_lt_zero j)⟩, fun y => h17.mpr y.1⟩
theorem ej_clamp (x : Int32) {lo hi : Nat} (hl : lo ≤ hi) (hh : hi < 2 ^ 31) : ∃ n : Nat, lo ≤ n ∧ n ≤ hi ∧ (∀ post : Int32 → Prop, post (nI n) → wpL_clamp post () x (nI lo) (nI hi)) ∧ (∀ post : Int32 → Prop, post (nI n) → wpX_clamp post () x (nI lo) (nI hi)) := by
  by_cases h1 : nI lo ≤ x
  · have h0 : ¬ x < 0 := Int32.not_lt.mpr (Int32.le_trans (nI_pos' (by omega)) h1)
    obtain ⟨j, hj, rfl⟩ := nI_of h0
    have h1' := (nI_leI (by omega) hj).mp h1
    by_cases h2 : nI j ≤ nI hi
    · exact ⟨j, h1', (nI_leI hj hh).mp h2, fun post hp => br_t h1 (br_t h2 hp), fun A hp => br_t h1 (br_t h2 hp)⟩
    · exact ⟨hi, hl, Nat.le_refl _, fun post hp => br_t h1 (br_f h2 hp), fun A hp => br_t h1 (br_f h2 hp)⟩
  · exact ⟨lo, Nat.le_refl _, hl, fun post hp => br_f h1 hp, fun A hp => br_f h1 hp⟩
/-- the state at the beginning -/
theorem ej_init (N M : Nat) : ej_J N M 0 0 0 (fun _ => 0) (fun _ => 0) (fun _ => 0) (fun _ => 0) (fun _ => 0) (fun _ => 0) := by
  refine ⟨⟨et_inv0 _ _, fun _ _ e => absurd rfl e, fun _ _ e => absurd rfl e, fun _ _ e => absurd e et_n02, fun e => absurd rfl e, ⟨fun _ => 0, fun _ _ e => absurd e et_n02⟩, ?_⟩, fun e => absurd rfl e⟩
  rw [ej_fly_0 M (fun _ _ => by decide)]
  exact (Int32.add_zero _).symm
end ETP2
theorem i_vc (xs : Nat → Int32) (L : Nat) (hL : L ≤ 260) : wpL_law (fun r => r = 1) L xs := by
  unfold wpL_law
  refine ej_cell hL 0 (by omega) rfl (fun c => ⟨by decide, nm_e (ej_cell hL 1 (by omega) rfl (fun c' => ⟨by decide, nm_e ?_⟩))⟩)
  obtain ⟨N, n1, n2, nL, nX⟩ := ej_clamp (1 + ((c &&& 2147483647) - (c &&& 2147483647) / 9 * 9)) (lo := 2) (hi := 8) (by decide) (by decide)
  obtain ⟨M, m1, m2, mL, mX⟩ := ej_clamp (5 + ((c' &&& 2147483647) - (c' &&& 2147483647) / 32 * 32)) (lo := 8) (hi := 32) (by decide) (by decide)
  refine nL _ (mL _ ⟨8, 136, by decide, by decide, ?_⟩)
  unfold wpX_init
  refine ⟨by decide, by decide, by decide, by decide, by decide, by decide, by decide, by decide, by decide, by decide, by decide, by decide, by decide, by decide, by decide, by decide, nX _ (mX _ ?_)⟩
  have e : (122 : Int32) * (Int32.ofNat L + 3) = nI (122 * (L + 3)) := by
    show nI 122 * (nI L + nI 3) = _
    rw [nI_add, pk_mul]
  refine nm_r e ⟨122 * (L + 3) + 1, ?_⟩
  exact ej_93 (post := fun r => r = 1) (xs := xs) (B := 122 * (L + 3)) hL n1 n2 m1 m2 rfl (by omega) (122 * (L + 3)) 0 (by omega) 0 0 0 0 0 0 0 2 0 0 0 0 (fun _ => 0) (fun _ => 0) (fun _ => 0) (fun _ => 0) (fun _ => 0) (fun _ => 0) (fun _ => 0) (fun _ => 0) (by omega) (by omega) et_b0 et_b0 (ej_init N M) (fun z => absurd rfl z)
