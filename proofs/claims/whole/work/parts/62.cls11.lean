theorem mat_mn {g : Gm} {P : Nat → Nat} {t : Nat} (hC : posC g P) (ht : t < sq g) : mnF P t (qn g) 0 = mat g P t := by
  obtain ⟨s1, s2⟩ := mnF_spec P t (qn g) 0
  cases h1 : mnF P t (qn g) 0 with
  | none =>
    cases h2 : mat g P t with
    | none => rfl
    | some q =>
      have := matN_lt P t _ q h2
      exact absurd this.2 (s1 h1 q (Nat.zero_le _) (by omega))
  | some q =>
    have a := s2 q h1
    obtain ⟨q', h2⟩ := matN_at (P := P) (t := t) (qn g) q (by omega) a.2.2
    have b := matN_lt P t _ q' h2
    have h2' : mat g P t = some q' := h2
    rw [h2']
    by_cases e : q = q'
    · rw [e]
    · exact absurd (a.2.2.trans b.2.symm) (hC.2.2.1 q q' (by omega) b.1 e (by rw [a.2.2]; exact ht))
theorem full_mat {g : Gm} {P : Nat → Nat} {t : Nat} (ht : t < sq g) : (ocF g P (qn g)).testBit t = (mat g P t).isSome := by
  rw [Bool.eq_iff_iff, ocF_bit]
  constructor
  · rintro ⟨m, h1, h2, h3⟩
    obtain ⟨q, hq⟩ := matN_at (P := P) (t := t) (qn g) m h1 h3
    have : mat g P t = some q := hq
    rw [this]; rfl
  · intro h
    obtain ⟨q, hq⟩ := Option.isSome_iff_exists.mp h
    have := matN_lt P t _ q hq
    exact ⟨q, this.1, by rw [this.2]; exact ht, this.2⟩
/-- the squares after a move -/
theorem ocF_gone {g : Gm} (w : qF g) {P : Nat → Nat} {m t : Nat} (hC : posC g P) (hm : m < qn g) (ht : t < sq g) (hPm : P m < sq g) (hne : t ≠ P m) (hu : ∀ m', m' < qn g → m' ≠ m → P m' = t → mat g P t = some m') (hq : ∀ q, mat g P t = some q → q ≠ m ∧ q < qn g) : (ocF g P (qn g) &&& (2 ^ P m ^^^ 4294967295)) ||| 2 ^ t = ocF g (gone g P m t) (qn g) := by
  have hsq := w.sq_lt
  apply Nat.eq_of_testBit_eq
  intro i
  rw [Bool.eq_iff_iff, ocF_bit, Nat.testBit_or, Bool.or_eq_true, Nat.testBit_and, Bool.and_eq_true, ocF_bit, Nat.testBit_xor, Nat.testBit_two_pow, Nat.testBit_two_pow, show 4294967295 = 2 ^ 32 - 1 from rfl, Nat.testBit_two_pow_sub_one]
  have hg : ∀ k, gone g P m t k = if mat g P t = some k then sq g else if k = m then t else P k := fun k => by
    unfold gone
    cases h : mat g P t with
    | none => simp [uP]
    | some q =>
      show uP (uP P m t) q (sq g) k = _
      unfold uP
      by_cases e : k = q
      · subst e; simp
      · rw [if_neg e, if_neg (fun z => e (Option.some.inj z).symm)]
  constructor
  · rintro (⟨⟨k, h1, h2, h3⟩, h4⟩ | h)
    · have hi : i < 32 := by omega
      have hPi : P m ≠ i := by
        rw [decide_eq_true hi, Bool.xor_true, Bool.not_eq_true', decide_eq_false_iff_not] at h4
        exact h4
      have hkm : k ≠ m := fun e => hPi (by rw [← e]; exact h3)
      by_cases e : mat g P t = some k
      · have := matN_lt P t _ k e
        refine ⟨m, hm, ?_⟩
        have hne2 : mat g P t ≠ some m := fun z => (hq m z).1 rfl
        rw [hg, if_neg hne2, if_pos rfl]
        exact ⟨ht, by rw [← this.2]; exact h3⟩
      · refine ⟨k, h1, ?_⟩
        rw [hg, if_neg e, if_neg hkm]
        exact ⟨h2, h3⟩
    · have h : t = i := by simpa using h
      have hne2 : mat g P t ≠ some m := fun z => (hq m z).1 rfl
      refine ⟨m, hm, ?_⟩
      rw [hg, if_neg hne2, if_pos rfl]
      exact ⟨ht, h⟩
  · rintro ⟨k, h1, h2, h3⟩
    rw [hg] at h2 h3
    by_cases e : mat g P t = some k
    · rw [if_pos e] at h2; omega
    · rw [if_neg e] at h2 h3
      by_cases ek : k = m
      · rw [if_pos ek] at h3
        right; simpa using h3
      · rw [if_neg ek] at h2 h3
        have hi : i < 32 := by omega
        left
        refine ⟨⟨k, h1, h2, h3⟩, ?_⟩
        rw [decide_eq_true hi, Bool.xor_true, Bool.not_eq_true', decide_eq_false_iff_not]
        intro z
        exact hC.2.2.1 k m h1 hm ek h2 (by rw [h3, z])
