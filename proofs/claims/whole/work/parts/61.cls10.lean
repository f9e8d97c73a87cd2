theorem ocF_bit (g : Gm) (P : Nat → Nat) (p : Nat) : ∀ n, (ocF g P n).testBit p = true ↔ ∃ m, m < n ∧ P m < sq g ∧ P m = p
  | 0 => ⟨fun h => (by rw [ocF, Nat.zero_testBit] at h; cases h), fun ⟨m, h, _⟩ => absurd h (Nat.not_lt_zero _)⟩
  | n + 1 => by
    rw [ocF, Nat.testBit_or, Bool.or_eq_true, ocF_bit g P p n]
    have e : (if P n < sq g then 2 ^ P n else 0).testBit p = true ↔ P n < sq g ∧ P n = p := by
      by_cases c : P n < sq g
      · rw [if_pos c, Nat.testBit_two_pow]
        simp [c]
      · rw [if_neg c, Nat.zero_testBit]
        simp [c]
    rw [e]
    constructor
    · rintro (⟨m, h1, h2⟩ | h)
      · exact ⟨m, by omega, h2⟩
      · exact ⟨n, by omega, h⟩
    · rintro ⟨m, h1, h2⟩
      by_cases c : m = n
      · subst c; exact Or.inr h2
      · exact Or.inl ⟨m, by omega, h2⟩
theorem mnF_spec (P : Nat → Nat) (t : Nat) : ∀ k m, (mnF P t k m = none → ∀ i, m ≤ i → i < m + k → P i ≠ t) ∧ ∀ q, mnF P t k m = some q → m ≤ q ∧ q < m + k ∧ P q = t
  | 0, m => ⟨fun _ i h1 h2 => by omega, fun q h => by cases h⟩
  | k + 1, m => by
    obtain ⟨h1, h2⟩ := mnF_spec P t k (m + 1)
    rw [mnF]
    by_cases c : P m = t
    · rw [if_pos c]
      exact ⟨fun h => (by cases h), fun q h => (by cases h; exact ⟨Nat.le_refl _, by omega, c⟩)⟩
    · rw [if_neg c]
      refine ⟨fun h i hi1 hi2 => ?_, fun q h => ?_⟩
      · by_cases e : i = m
        · rw [e]; exact c
        · exact h1 h i (by omega) (by omega)
      · have := h2 q h
        omega
section
variable {E : Wd} {h : Hp} {p r c s o : Nat} {g : Gm} {d : Nat} {P : Nat → Nat}
theorem Kp.cg {P' : Nat → Nat} (K : Kp E h p r c g P s o) (e : ∀ m, m < 3 → P' m = P m) : Kp E h p r c g P' s o := by
  obtain ⟨k1, k2, k3, ⟨F, k4, k5⟩, k6, k7⟩ := K
  exact ⟨k1, k2, k3, ⟨F, k4, fun m hm => by rw [e m hm]; exact k5 m hm⟩, fun m hm => by rw [e m hm]; exact k6 m hm, k7⟩
end
