def wyC (w h s f t : Nat) : Bool :=
  decide (dxx w (tnW w h s f) (tnW w h s t) = if s.testBit 2 = true then dyy w f t else dxx w f t) && decide (dyy w (tnW w h s f) (tnW w h s t) = if s.testBit 2 = true then dxx w f t else dyy w f t) && (decide (1 < s) || decide (tnW w h s t / w = t / w)) &&
  (!lineB w f t || (decide (way w f t < 2 ^ (w * h)) && (List.range (w * h)).all fun p => (way w (tnW w h s f) (tnW w h s t)).testBit (tnW w h s p) == (way w f t).testBit p))
theorem wy_all : ((List.range 7).all fun w => (List.range 7).all fun h => decide (w < 2) || decide (h < 2) || decide (12 < w * h) || (List.range 8).all fun s => (s.testBit 2 && decide (w ≠ h)) || (List.range (w * h)).all fun f => (List.range (w * h)).all fun t => wyC w h s f t) = true := by decide +kernel
theorem wy_ok {g : Gm} (w : qF g) {s : Nat} (hs : s < 8) (hsw : s.testBit 2 = true → qw g = qh g) {f t : Nat} (hf : f < sq g) (ht : t < sq g) : wyC (qw g) (qh g) s f t = true := by
  have h1 := List.all_eq_true.mp wy_all (qw g) (List.mem_range.mpr (by have := w.2.1; omega))
  have h2 := List.all_eq_true.mp h1 (qh g) (List.mem_range.mpr (by have := w.2.2.2.1; omega))
  rw [decide_eq_false (by have := w.1; omega), decide_eq_false (by have := w.2.2.1; omega), decide_eq_false (by have := w.2.2.2.2.1; omega), Bool.false_or, Bool.false_or, Bool.false_or] at h2
  have h3 := List.all_eq_true.mp h2 s (List.mem_range.mpr hs)
  have h4 : (s.testBit 2 && decide (qw g ≠ qh g)) = false := by
    by_cases c : s.testBit 2 = true
    · simp [hsw c]
    · simp [show s.testBit 2 = false by simpa using c]
  rw [h4, Bool.false_or] at h3
  exact List.all_eq_true.mp (List.all_eq_true.mp h3 f (List.mem_range.mpr hf)) t (List.mem_range.mpr ht)
theorem and0 {a b : Nat} : a &&& b = 0 ↔ ∀ p, ¬ (a.testBit p = true ∧ b.testBit p = true) := by
  constructor
  · intro h p q
    have : (a &&& b).testBit p = true := by rw [Nat.testBit_and, q.1, q.2]; rfl
    rw [h] at this; simp at this
  · intro h
    refine Nat.eq_of_testBit_eq (fun p => ?_)
    rw [Nat.testBit_and, Nat.zero_testBit]
    have := h p
    cases ha : a.testBit p <;> cases hb : b.testBit p <;> simp_all
section
variable {g : Gm} {s : Nat}
theorem trn_sq : trn g s (sq g) = sq g := by unfold trn; rw [if_pos rfl]
theorem trn_lt' (w : qF g) (hsw : s.testBit 2 = true → qw g = qh g) {p : Nat} (hp : p ≤ sq g) : trn g s p < sq g ↔ p < sq g := by
  constructor
  · intro h
    rcases Nat.lt_or_ge p (sq g) with c | c
    · exact c
    · rw [show p = sq g by omega, trn_sq] at h; omega
  · exact trn_lt w hsw
theorem trn_inj (w : qF g) (hs : s < 8) (hsw : s.testBit 2 = true → qw g = qh g) {p q : Nat} (hp : p ≤ sq g) (hq : q ≤ sq g) : trn g s p = trn g s q ↔ p = q := by
  constructor
  · intro h
    by_cases c : p = sq g
    · by_cases c2 : q = sq g
      · omega
      · rw [c, trn_sq] at h
        have := trn_lt w hsw (show q < sq g by omega); omega
    · by_cases c2 : q = sq g
      · rw [c2, trn_sq] at h
        have := trn_lt w hsw (show p < sq g by omega); omega
      · exact (tn_ok w hs hsw).2 p q (by omega) (by omega) h
  · intro h; rw [h]
theorem clr_T (w : qF g) (hs : s < 8) (hsw : s.testBit 2 = true → qw g = qh g) {f t o o' : Nat} (hf : f < sq g) (ht : t < sq g) (hl : lineB (qw g) f t = true) (hl' : lineB (qw g) (trn g s f) (trn g s t) = true) (ho : ∀ p, p < sq g → o'.testBit (trn g s p) = o.testBit p) : clr (qw g) (trn g s f) (trn g s t) o' = clr (qw g) f t o := by
  have hF := trn_lt w hsw hf
  have hT := trn_lt w hsw ht
  have c1 := wy_ok w hs hsw hf ht
  have c2 := wy_ok w hs hsw hF hT
  simp only [wyC, hl, Bool.and_eq_true, Bool.not_true, Bool.false_or, decide_eq_true_eq] at c1
  simp only [wyC, hl', Bool.and_eq_true, Bool.not_true, Bool.false_or, decide_eq_true_eq] at c2
  obtain ⟨-, c3, c4⟩ := c1
  obtain ⟨-, c5, -⟩ := c2
  have bit : ∀ p, p < sq g → (way (qw g) (trn g s f) (trn g s t)).testBit (trn g s p) = (way (qw g) f t).testBit p := fun p hp => by
    have := List.all_eq_true.mp c4 p (List.mem_range.mpr hp)
    exact beq_iff_eq.mp this
  have lt : ∀ {n q : Nat}, n < 2 ^ sq g → n.testBit q = true → q < sq g := fun {n q} hn hq => by
    rcases Nat.lt_or_ge q (sq g) with c | c
    · exact c
    · rw [Nat.testBit_lt_two_pow (Nat.lt_of_lt_of_le hn (Nat.pow_le_pow_right (by omega) c))] at hq; cases hq
  unfold clr
  rw [Bool.eq_iff_iff, beq_iff_eq, beq_iff_eq, and0, and0]
  constructor
  · intro h p q
    have hp := lt c3 q.1
    exact h (trn g s p) ⟨by rw [bit p hp]; exact q.1, by rw [ho p hp]; exact q.2⟩
  · intro h q z
    obtain ⟨p, hp, e⟩ := (tn_ok w hs hsw).1 q (lt c5 z.1)
    rw [← e] at z
    rw [bit p hp, ho p hp] at z
    exact h p z
theorem rch_T (w : qF g) (hs : s < 8) (hsw : s.testBit 2 = true → qw g = qh g) {m f t o o' : Nat} {cap : Bool} (hpw : 1 < s → qk g m ≠ 9) (hf : f < sq g) (ht : t < sq g) (ho : ∀ p, p < sq g → o'.testBit (trn g s p) = o.testBit p) : rch g m (trn g s f) (trn g s t) o' cap = rch g m f t o cap := by
  have hk := w.2.2.2.2.2.2.2.2.2.2 m
  have c0 := wy_ok w hs hsw hf ht
  have c0' := wy_ok w hs hsw hf hf
  simp only [wyC, Bool.and_eq_true, Bool.or_eq_true, decide_eq_true_eq] at c0 c0'
  have cx : dxx (qw g) (trn g s f) (trn g s t) = if s.testBit 2 = true then dyy (qw g) f t else dxx (qw g) f t := c0.1.1.1
  have cy : dyy (qw g) (trn g s f) (trn g s t) = if s.testBit 2 = true then dxx (qw g) f t else dyy (qw g) f t := c0.1.1.2
  have cr : 1 < s ∨ trn g s t / qw g = t / qw g := c0.1.2
  have cr' : 1 < s ∨ trn g s f / qw g = f / qw g := c0'.1.2
  have cl : ∀ z : Bool, (z = true → lineB (qw g) f t = true ∧ lineB (qw g) (trn g s f) (trn g s t) = true) → (z && clr (qw g) (trn g s f) (trn g s t) o') = (z && clr (qw g) f t o) := fun z hz => by
    cases z with
    | false => rfl
    | true => rw [clr_T w hs hsw hf ht (hz rfl).1 (hz rfl).2 ho]
  have hlT : ∀ x y, x = dxx (qw g) f t → y = dyy (qw g) f t → lineB (qw g) f t = (((x == 0) != (y == 0)) || (x == y && decide (0 < x))) := fun x y e1 e2 => by rw [e1, e2]; rfl
  have hlT' : ∀ x y, x = dxx (qw g) (trn g s f) (trn g s t) → y = dyy (qw g) (trn g s f) (trn g s t) → lineB (qw g) (trn g s f) (trn g s t) = (((x == 0) != (y == 0)) || (x == y && decide (0 < x))) := fun x y e1 e2 => by rw [e1, e2]; rfl
  unfold rch
  simp only
  by_cases b2 : s.testBit 2 = true
  · have h1s : 1 < s := by
      rcases Nat.lt_or_ge 1 s with c | c
      · exact c
      · rw [Nat.testBit_lt_two_pow (show s < 2 ^ 2 by omega)] at b2; cases b2
    have h9 := hpw h1s
    rw [if_pos b2] at cx cy
    rw [cx, cy]
    generalize hx : dxx (qw g) f t = x at *
    generalize hy : dyy (qw g) f t = y at *
    have l1 := hlT x y rfl rfl
    have l2 := hlT' y x cx.symm cy.symm
    have k5 : (((y == 0) != (x == 0)) && clr (qw g) (trn g s f) (trn g s t) o') = (((x == 0) != (y == 0)) && clr (qw g) f t o) := by
      have e : ((y == 0) != (x == 0)) = ((x == 0) != (y == 0)) := by cases (x == 0) <;> cases (y == 0) <;> rfl
      rw [e]
      exact cl _ (fun z => ⟨by rw [l1, z]; rfl, by rw [l2, e, z]; rfl⟩)
    have e6 : (y == x && decide (0 < y)) = (x == y && decide (0 < x)) := by
      rw [Bool.eq_iff_iff]; simp only [Bool.and_eq_true, beq_iff_eq, decide_eq_true_eq]; omega
    have k6 : ((y == x && decide (0 < y)) && clr (qw g) (trn g s f) (trn g s t) o') = ((x == y && decide (0 < x)) && clr (qw g) f t o) := by
      rw [e6]
      exact cl _ (fun z => ⟨by rw [l1, z, Bool.or_true], by rw [l2, e6, z, Bool.or_true]⟩)
    have k7 : ((((y == 0) != (x == 0)) || (y == x && decide (0 < y))) && clr (qw g) (trn g s f) (trn g s t) o') = ((((x == 0) != (y == 0)) || (x == y && decide (0 < x))) && clr (qw g) f t o) := by
      have e : ((y == 0) != (x == 0)) = ((x == 0) != (y == 0)) := by cases (x == 0) <;> cases (y == 0) <;> rfl
      rw [e, e6]
      exact cl _ (fun z => ⟨by rw [l1, z], by rw [l2, e, e6, z]⟩)
    rw [k5, k6, k7]
    have : qk g m = 0 ∨ qk g m = 1 ∨ qk g m = 2 ∨ qk g m = 3 ∨ qk g m = 4 ∨ qk g m = 5 ∨ qk g m = 6 ∨ qk g m = 7 ∨ qk g m = 8 := by omega
    rcases this with e | e | e | e | e | e | e | e | e <;> (rw [Bool.eq_iff_iff]; simp [e]; try omega)
  · rw [if_neg b2] at cx cy
    rw [cx, cy]
    have l2 := hlT' _ _ cx.symm cy.symm
    have l1 := hlT _ _ rfl rfl
    have kk : ∀ z : Bool, (z = true → (((dxx (qw g) f t == 0) != (dyy (qw g) f t == 0)) || (dxx (qw g) f t == dyy (qw g) f t && decide (0 < dxx (qw g) f t))) = true) → (z && clr (qw g) (trn g s f) (trn g s t) o') = (z && clr (qw g) f t o) := fun z hz => cl z (fun q => ⟨by rw [l1]; exact hz q, by rw [l2]; exact hz q⟩)
    rw [kk ((dxx (qw g) f t == 0) != (dyy (qw g) f t == 0)) (fun z => by rw [z]; rfl), kk (dxx (qw g) f t == dyy (qw g) f t && decide (0 < dxx (qw g) f t)) (fun z => by rw [z, Bool.or_true]), kk _ (fun z => z)]
    by_cases h9 : qk g m = 9
    · have h1s : ¬ 1 < s := fun q => hpw q h9
      have ct : trn g s t / qw g = t / qw g := by omega
      have cf : trn g s f / qw g = f / qw g := by omega
      rw [ct, cf]
    · have : ¬ (¬ qk g m = 0 ∧ ¬ qk g m = 1 ∧ ¬ qk g m = 2 ∧ ¬ qk g m = 3 ∧ ¬ qk g m = 4 ∧ ¬ qk g m = 5 ∧ ¬ qk g m = 6 ∧ ¬ qk g m = 7 ∧ ¬ qk g m = 8) := by omega
      by_cases e0 : qk g m = 0
      · rw [if_pos e0, if_pos e0]
      · by_cases e1 : qk g m = 1
        · rw [if_neg e0, if_neg e0, if_pos e1, if_pos e1]
        · by_cases e2 : qk g m = 2
          · rw [if_neg e0, if_neg e0, if_neg e1, if_neg e1, if_pos e2, if_pos e2]
          · have : qk g m = 3 ∨ qk g m = 4 ∨ qk g m = 5 ∨ qk g m = 6 ∨ qk g m = 7 ∨ qk g m = 8 := by omega
            rcases this with e | e | e | e | e | e <;> simp [e]
end
